/-! 23: a check of the makers' rows -/
def sActC (own nm : String) (pc : Nat) (ir : Instr) (aux : Nat) (act : Instr) (len : Nat) : Bool := match ir with
  | .new ci => match act with
    | .new idx => decide (len = 3) && (decide (ci < 12) && (match vwCl[ci]? with
      | some (C, _, N) => sTw aux (.classLink own idx C) && (decide (Cond.instantiable C N ∈ sTb) && decide (Cond.initialized C ∈ sTb))
      | none => false))
    | _ => false
  | .newarray t => match act with
    | .newarray u => decide (u = t) && decide (len = 2)
    | _ => false
  | .anewarray _ => match act with
    | .anewarray idx => decide (len = 3) && sTw aux (.classLink own idx "SwapTables$Shelf")
    | _ => false
  | .multianewarray _ _ => match act with
    | .multianewarray idx k => decide (k = 2) && (decide (len = 4) && sTw aux (.classLink own idx "[[I"))
    | _ => false
  | .aastore => decide (act = .aastore) && decide (len = 1)
  | .checkcast n => match act with
    | .putfield idx => decide (len = 3) && (match vwCl[n / 64]? with
      | some (_, T, N) => decide (n % 64 < N) && (sTw aux (.fieldLink own idx (T (n % 64)).1 (T (n % 64)).2.1 (T (n % 64)).2.2.1) && (decide ((T (n % 64)).2.2.2 = true) && (decide ((T (n % 64)).1 = own) && ((match parseFieldDescriptor (T (n % 64)).2.2.1 with
        | some (.object _) => true
        | some (.array _) => true
        | _ => false) && decide (nm = "<init>")))))
      | none => false)
    | _ => false
  | .pop => match act with
    | .invokespecial idx => decide (len = 3) && sTw aux (.methodLink own idx Lib.objectInit)
    | _ => false
  | .invokespecial k => match act with
    | .invokespecial idx => decide (len = 3) && (sLinkMB own idx aux (MC k).1 && decide ((MC k).1.name = "<init>"))
    | _ => false
  | .invokestatic k => match act with
    | .invokestatic idx => decide (len = 3) && ((decide (k = 67) && (sLinkMB own idx aux (MC k).1 && decide ((MC k).1.name ≠ "<init>"))) || (decide (k ≠ 67) && (sLinkMB own idx aux (MI k).1 && decide ((PG k).2.2.2.1 = 99))))
    | _ => false
  | .invokevirtual k => match act with
    | .invokevirtual idx => decide (len = 3) && (decide (k ≠ 67) && (sLinkMB own idx aux (MI k).1 && decide ((PG k).2.2.2.1 ≠ 99)))
    | _ => false
  | _ => false
def sMkI (ir : Instr) : Bool := match ir with
  | .new _ => true | .newarray _ => true | .anewarray _ => true | .multianewarray _ _ => true | .aastore => true | .checkcast _ => true | .pop => true | .invokespecial _ => true | .invokestatic _ => true | .invokevirtual _ => true
  | _ => false
def sRelCB (own nm : String) (cc : ByteArray) (q : sIn) : Bool := match sMkI q.2.1 with
  | false => sRelB own cc q
  | true => match decode cc q.1 with
    | .ok (act, len) => decide (q.2.2.1 = q.1 + len) && sActC own nm q.1 q.2.1 q.2.2.2 act len
    | .error _ => false
set_option maxHeartbeats 4000000 in
theorem sRelCB_ok {own nm : String} {cc : ByteArray} {q : sIn} (h : sRelCB own nm cc q = true) : sRelC MC own nm cc q := by
  obtain ⟨pc, ir, nx, aux⟩ := q
  cases h0 : sMkI ir with
  | false =>
    unfold sRelCB at h
    simp only [h0] at h
    have h1 := sRelB_ok h
    cases ir
    all_goals first
      | exact h1
      | exact nomatch (show true = false from h0)
  | true =>
    unfold sRelCB at h
    simp only [h0] at h
    split at h
    · rename_i act len hd
      simp only [Bool.and_eq_true, decide_eq_true_eq] at h
      obtain ⟨hn, h⟩ := h
      subst hn
      cases ir
      all_goals first | exact nomatch (show false = true from h0) | skip
      all_goals dsimp only [sActC] at h
      case new ci =>
        split at h <;> simp only [Bool.and_eq_true, decide_eq_true_eq, Bool.false_eq_true] at h
        obtain ⟨h1, h2, h3⟩ := h
        split at h3
        · rename_i C T N hq
          simp only [Bool.and_eq_true, decide_eq_true_eq] at h3
          exact ⟨_, C, T, N, by rw [hd, h1], by rw [h1], h2, hq, sTw_ok h3.1, h3.2.1, h3.2.2⟩
        · cases h3
      case newarray t =>
        split at h <;> simp only [Bool.and_eq_true, decide_eq_true_eq, Bool.false_eq_true] at h
        exact ⟨by rw [hd, h.1, h.2], by rw [h.2]⟩
      case anewarray j =>
        split at h <;> simp only [Bool.and_eq_true, decide_eq_true_eq, Bool.false_eq_true] at h
        exact ⟨_, by rw [hd, h.1], by rw [h.1], sTw_ok h.2⟩
      case multianewarray j1 j2 =>
        split at h <;> simp only [Bool.and_eq_true, decide_eq_true_eq, Bool.false_eq_true] at h
        exact ⟨_, by rw [hd, h.1, h.2.1], by rw [h.2.1], sTw_ok h.2.2⟩
      case aastore =>
        simp only [Bool.and_eq_true, decide_eq_true_eq] at h
        exact ⟨by rw [hd, h.1, h.2], by rw [h.2]⟩
      case checkcast n =>
        split at h <;> simp only [Bool.and_eq_true, decide_eq_true_eq, Bool.false_eq_true] at h
        obtain ⟨h1, h2⟩ := h
        split at h2
        · rename_i C T N hq
          simp only [Bool.and_eq_true, decide_eq_true_eq] at h2
          obtain ⟨e1, e2, e3, e4, e5, e6⟩ := h2
          split at e5
          · rename_i nn hp
            exact ⟨_, C, T, N, _, by rw [hd, h1], by rw [h1], hq, e1, sTw_ok e2, e3, e4, hp, Or.inl ⟨nn, rfl⟩, e6⟩
          · rename_i nn hp
            exact ⟨_, C, T, N, _, by rw [hd, h1], by rw [h1], hq, e1, sTw_ok e2, e3, e4, hp, Or.inr ⟨nn, rfl⟩, e6⟩
          · cases e5
        · cases h2
      case pop =>
        split at h <;> simp only [Bool.and_eq_true, decide_eq_true_eq, Bool.false_eq_true] at h
        exact ⟨_, by rw [hd, h.1], by rw [h.1], sTw_ok h.2⟩
      case invokespecial k =>
        split at h <;> simp only [Bool.and_eq_true, decide_eq_true_eq, Bool.false_eq_true] at h
        exact ⟨_, by rw [hd, h.1], by rw [h.1], sLinkMB_ok h.2.1, h.2.2⟩
      case invokestatic k =>
        split at h <;> simp only [Bool.and_eq_true, decide_eq_true_eq, Bool.false_eq_true, Bool.or_eq_true] at h
        exact ⟨_, by rw [hd, h.1], by rw [h.1], h.2.imp (fun q => ⟨q.1, sLinkMB_ok q.2.1, q.2.2⟩) (fun q => ⟨q.1, sLinkMB_ok q.2.1, q.2.2⟩)⟩
      case invokevirtual k =>
        split at h <;> simp only [Bool.and_eq_true, decide_eq_true_eq, Bool.false_eq_true] at h
        exact ⟨_, by rw [hd, h.1], by rw [h.1], h.2.1, sLinkMB_ok h.2.2.1, h.2.2.2⟩
    · cases h
def sMokCB (me : sMc) (mi : sMi) (t : Nat × Nat × Nat) : Bool := sTw t.1 (.code mi.1 mi.2.1 mi.2.2.1 mi.2.2.2) && (sTw t.2.1 (.initialized mi.1.cls) && (decide (mi.1.cls ≠ "java/lang/invoke/MethodHandle" ∧ mi.1.cls ≠ "java/lang/invoke/VarHandle") && (plainName mi.1.cls && (decide (me.2.1 = mi.2.2.1) && (decide (mi.2.2.1 + 19 ≤ 64) &&
  ((decide (mi.1.name = "<init>") && (sTw t.2.2 (.instanceMethod mi.1) && (decide ((parseMethodDescriptor mi.1.desc).map (fun d => d.parameters.length + 1) = some me.2.2.1) && (decide (me.2.2.2.1 = 0) && decide (mi.2.2.2 = none))))) ||
   (decide (mi.1.name ≠ "<init>") && (sTw t.2.2 (.static mi.1) && (decide ((parseMethodDescriptor mi.1.desc).map (fun d => d.parameters.length) = some me.2.2.1) && (decide (me.2.2.2.1 = 4) && (match mi.2.2.2 with
    | some (.object _) => true
    | some (.array _) => true
    | _ => false)))))))))))
noncomputable def sCkC (q : sMc × sMi × (Nat × Nat × Nat)) : Bool := sMokCB q.1 q.2.1 q.2.2 && sAllR (sRelCB q.2.1.1.cls q.2.1.1.name q.2.1.2.1) q.1.1
theorem sMokCB_ok {me : sMc} {mi : sMi} {t : Nat × Nat × Nat} (h : sMokCB me mi t = true) : sMokC me mi := by
  simp only [sMokCB, Bool.and_eq_true, Bool.or_eq_true, decide_eq_true_eq] at h
  obtain ⟨h1, h2, h3, h4, h5, h6, h7⟩ := h
  refine ⟨sTw_ok h1, sTw_ok h2, h3, h4, h5, h6, ?_⟩
  rcases h7 with ⟨a, b, c, d, e⟩ | ⟨a, b, c, d, e⟩
  · refine Or.inl ⟨a, sTw_ok b, ?_, d, e⟩
    obtain ⟨q, q1, q2⟩ := Option.map_eq_some_iff.mp c
    exact ⟨q.parameters.length, by rw [q1]; rfl, q2.symm⟩
  · refine Or.inr ⟨a, sTw_ok b, c, d, ?_⟩
    split at e
    · rename_i n q
      exact ⟨_, q, Or.inl ⟨n, rfl⟩⟩
    · rename_i n q
      exact ⟨_, q, Or.inr ⟨n, rfl⟩⟩
    · cases e
theorem sCkC_ok {k : Nat} (h : sCkC (PMc.get k) = true) : sMokC (PC k) (MC k) ∧ ∀ pc, sRelC MC (MC k).1.cls (MC k).1.name (MC k).2.1 ((PC k).1.get pc) := by
  unfold sCkC at h
  rw [Bool.and_eq_true] at h
  exact ⟨sMokCB_ok h.1, fun pc => sRelCB_ok (sAllR_ok _ h.2 pc)⟩
theorem sMkw_ok : sMkw := ⟨by decide +kernel, by decide +kernel, by decide +kernel, by decide +kernel, by decide +kernel, by decide +kernel⟩
theorem sFldC_ok : sFldC := by
  intro ci C T N h
  match ci, h with
  | 0, h => cases h; exact ⟨rfl, tyX0_ok⟩
  | 1, h => cases h; exact ⟨rfl, tyX1_ok⟩
  | 2, h => cases h; exact ⟨rfl, tyX4_ok⟩
  | 3, h => cases h; exact ⟨rfl, tyX5_ok⟩
  | 4, h => cases h; exact ⟨rfl, tyX6_ok⟩
  | 5, h => cases h; exact ⟨rfl, tyX7_ok⟩
  | 6, h => cases h; exact ⟨rfl, tyX8_ok⟩
  | 7, h => cases h; exact ⟨rfl, tyX8_ok⟩
  | 8, h => cases h; exact ⟨rfl, tyX10_ok⟩
  | 9, h => cases h; exact ⟨rfl, tyX11_ok⟩
  | 10, h => cases h; exact ⟨rfl, tyX12_ok⟩
  | 11, h => cases h; exact ⟨rfl, tyX13_ok⟩
  | k + 12, h => simp [vwCl] at h
