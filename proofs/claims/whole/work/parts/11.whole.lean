/-! 11: the executor with its calls is sound -/
theorem sEnt_ok {r : sE} {al : Nat → Nat} : ∀ (as : List sV) (n : Nat) (k : sL → Bool), sEnt as n k = true → ∃ L, k L = true ∧ L.length = n ∧ (lg_sl (as.map (sVal r al))).length ≤ n ∧ ∀ (b i : Nat) (v : sV), L[i]? = some (some v) → (b + i, sVal r al v) ∈ lv_args b (as.map (sVal r al))
  | [], n, k, h => by
    have key : ∀ (n : Nat) (k : sL → Bool), sEnt [] n k = true → ∃ L, k L = true ∧ L.length = n ∧ ∀ (i : Nat) (v : sV), L[i]? ≠ some (some v) := by
      intro n
      induction n with
      | zero => intro k h; exact ⟨[], h, rfl, fun i v q => by simp at q⟩
      | succ n ih =>
        intro k h
        obtain ⟨L, h1, h2, h3⟩ := ih (fun L => k (none :: L)) h
        refine ⟨none :: L, h1, by simp [h2], fun i v q => ?_⟩
        cases i with
        | zero => simp at q
        | succ i => exact h3 i v (by simpa using q)
    obtain ⟨L, h1, h2, h3⟩ := key n k h
    exact ⟨L, h1, h2, by simp [lg_sl], fun b i v q => absurd q (h3 i v)⟩
  | a :: as, n, k, h => by
    cases hc : Nat.beq (sCat a) (nat_lit 1) with
    | true =>
      have hcat : (sVal r al a).category = 1 := sCat_ok hc
      have h' : Nat.rec (motive := fun _ => Bool) false (fun m _ => sEnt as m (fun L => k (some a :: L))) n = true := by
        have h2 := h
        unfold sEnt at h2
        simp only [hc] at h2
        exact h2
      cases n with
      | zero => exact nomatch (show false = true from h')
      | succ n =>
        obtain ⟨L, h1, h2, h3, h4⟩ := sEnt_ok (r := r) (al := al) as n _ h'
        refine ⟨some a :: L, h1, by simp [h2], ?_, fun b i v q => ?_⟩
        · simp only [lg_sl, List.map_cons, List.flatMap_cons] at h3 ⊢
          rw [if_neg (by omega)]
          simp only [List.length_append, List.length_cons, List.length_nil]
          omega
        · rw [List.map_cons]
          unfold lv_args
          rw [if_neg (by omega)]
          cases i with
          | zero =>
            simp at q
            subst q
            exact List.mem_cons_self
          | succ i =>
            have := h4 (b + 1) i v (by simpa using q)
            rw [show b + 1 + i = b + (i + 1) by omega] at this
            exact List.mem_cons_of_mem _ this
    | false =>
      have hcat : (sVal r al a).category = 2 := by
        rcases a with x | x | x | x
        · exact nomatch (show true = false from hc)
        · rfl
        · exact nomatch (show true = false from hc)
        · exact nomatch (show true = false from hc)
      have h' : Nat.rec (motive := fun _ => Bool) false (fun m _ => Nat.rec (motive := fun _ => Bool) false (fun m _ => sEnt as m (fun L => k (some a :: none :: L))) m) n = true := by
        have h2 := h
        unfold sEnt at h2
        simp only [hc] at h2
        exact h2
      cases n with
      | zero => exact nomatch (show false = true from h')
      | succ n => cases n with
        | zero => exact nomatch (show false = true from h')
        | succ n =>
          obtain ⟨L, h1, h2, h3, h4⟩ := sEnt_ok (r := r) (al := al) as n _ h'
          refine ⟨some a :: none :: L, h1, by simp [h2], ?_, fun b i v q => ?_⟩
          · simp only [lg_sl, List.map_cons, List.flatMap_cons] at h3 ⊢
            rw [if_pos hcat]
            simp only [List.length_append, List.length_cons, List.length_nil]
            omega
          · rw [List.map_cons]
            unfold lv_args
            rw [if_pos hcat]
            cases i with
            | zero =>
              simp at q
              subst q
              exact List.mem_cons_self
            | succ i => cases i with
              | zero => simp at q
              | succ i =>
                have := h4 (b + 2) i v (by simpa using q)
                rw [show b + 2 + i = b + (i + 1 + 1) by omega] at this
                exact List.mem_cons_of_mem _ this
section SX
variable {D : va_G} {cy : Nat → ClassId} {r : sE} {al : Nat → Nat} {hid : Nat → va_E} {rest : va_W}
theorem s_call {p : Program} {l : Launch} {e : Env} {R : Room} {s : State} {m : MethodId} {args : Array Value} {below : List Frame} {meth : Method} {c : Code} {H : Heap} {locs : List Loc} {Q : State → Prop} {pc cells slots : Nat} {ls : Array Slot} {st0 rs : List Value} {a : Array Value} {A A1 free : Nat → Prop} {kr : sKr}
    (hr : va_Run p l e R s m args below meth c H locs cells slots 0 0 (F0 m pc ls st0) rs (sQc D cy hid rest r al A1 kr a) free) (hS : va_S A s.heap H locs) (hA : ∀ q, q < H.size → A1 q → A q) (hf : ∀ q, free q → A q)
    (kk : ∀ (v : Option sV) (pa : List sK) (mem : sM) (H1 : Heap) (locs1 : List Loc), kr v pa mem = true → sPa r pa → va_P D vwCl (sW r al cy hid rest mem) H1 → va_D A1 (sW r al cy hid rest mem) → va_S A s.heap H1 locs1 → W p l e R s m args below meth c H1 locs1 cells slots Q (F0 m (pc + 3) ls ((v.map (sVal r al)).toList ++ rs))) : W p l e R s m args below meth c H locs cells slots Q (F0 m pc ls st0) := by
  intro T hT X
  obtain ⟨v, st₀, t, T', L, h0, X', hL, e1, e2, ⟨⟨v1, pa, mem, k1, k2, hv, k3, k4, k5⟩, hz, hk⟩, st⟩ := hr T hT X
  cases hv
  rw [h0] at hz hk
  obtain ⟨t2, a1, b1⟩ := kk v1 pa mem T'.heap (locs ++ L) k1 k2 (by rw [e1]; exact k3) k5
    ⟨Nat.le_trans hS.1 (by rw [e1]; exact hz), fun q h1 h2 => by rw [e1, hk q (Nat.lt_of_lt_of_le h1 hS.1) (fun z => h2 (hA q (Nat.lt_of_lt_of_le h1 hS.1) z))]; exact hS.2.1 q h1 h2, fun q hq => by
      rcases List.mem_append.mp hq with h | h
      · exact hS.2.2 q h
      · exact hf _ (hL q h)⟩ T' rfl X'
  exact ⟨t2, st t2 a1, b1⟩
/-- a frame of a method that runs: what holds of it all the time -/
def sCtx (MI : Nat → sMi) (k d : Nat) (D : va_G) (cy : Nat → ClassId) (al : Nat → Nat) (A : Nat → Prop) (p : Program) (R : Room) (s : State) (m : MethodId) (args : Array Value) (meth : Method) (c : Code) : Prop :=
  p.tables.exec = Jvm.exec ∧ c.code = (MI k).2.1 ∧ c.maxLocals = (MI k).2.2.1 ∧ s.vm.findClass (MI k).1.cls = some m.cls ∧ (∀ w ∈ sTb, w.before args s = true) ∧ sNw s ∧ va_K D vwCl (sT cy) s ∧ sSt al A s s.heap ∧ (∀ q, s.heap.size ≤ q → A q) ∧ d + 1 ≤ R.frames ∧ 64 * (d + 1) ≤ R.locals ∧ meth.sig.returnType = (MI k).2.2.2 ∧ meth.locks = false
/-- the contract that a run of the executor gives -/
def sMet (MI : Nat → sMi) (l : Launch) (D : va_G) (cy : Nat → ClassId) (hid : Nat → va_E) (rest : va_W) (r : sE) (al : Nat → Nat) (d k : Nat) (mem : sM) (as : List sV) (kr : sKr) : Prop :=
  ∀ sz : Nat, Met l (MI k).1 (Cond.code (MI k).1 (MI k).2.1 (MI k).2.2.1 (MI k).2.2.2 :: sTb) (sRm d) (va_Pc (as.map (sVal r al)) (sPre D cy hid rest r al mem sz)) (sQc D cy hid rest r al (va_A (sW r al cy hid rest mem) sz) kr) 0 0 (va_A (sW r al cy hid rest mem) sz)
/-- a step of the executor, told in words -/
theorem sx_step {PG : Nat → sMe} {n d : Nat} {me : sMe} {stop : Nat → Bool} {ks : sKs} {kr : sKr} {pc : Nat} {L : sL} {st : List sV} {pa : List sK} {mem : sM} (h : sx PG (n + 1) d me stop ks kr pc L st pa mem = true) :
    ks pc L st pa mem = true ∨ ∃ ir nx aux, me.1.get pc = (pc, ir, nx, aux) ∧ ((∃ f, sOp ir = .inl f ∧ f nx L st pa mem (sx PG n d me stop ks kr) = true) ∨
      (∃ mi d1, sOp ir = .inr (.inl mi) ∧ d = d1 + 1 ∧ sPop (PG mi).2.2.1 st [] (fun as st => sIf (Nat.ble (sCats st) (nat_lit 8)) (sRecv mem (PG mi).2.2.2.1 as (sEnt as (PG mi).2.1 (fun L1 =>
          sx PG n d1 (PG mi) (fun _ => false) (fun _ _ _ _ _ => false) (fun v pa mem => sPush v st (fun st => sx PG n d me stop ks kr nx L st pa mem)) (nat_lit 0) L1 [] pa mem)))) = true) ∨
      (∃ o, sOp ir = .inr (.inr o) ∧ sRet me.2.2.2.2 o st (fun v => kr v pa mem) = true)) := by
  cases hs : stop pc with
  | true =>
    have h2 : ks pc L st pa mem = true := by
      have h3 := h
      unfold sx at h3
      simp only [hs] at h3
      exact h3
    exact Or.inl h2
  | false =>
    right
    obtain ⟨pc1, ir, nx, aux, hg⟩ : ∃ pc1 ir nx aux, me.1.get pc = (pc1, ir, nx, aux) := ⟨_, _, _, _, rfl⟩
    have h2 : sIf (Nat.beq pc pc1) (Sum.rec (motive := fun _ => Bool)
      (fun h => h nx L st pa mem (sx PG n d me stop ks kr))
      (fun z => Sum.rec (motive := fun _ => Bool)
        (fun mi => Nat.rec (motive := fun _ => Bool) false (fun d1 _ => (fun cal : sMe => sPop cal.2.2.1 st [] (fun as st => sIf (Nat.ble (sCats st) (nat_lit 8)) (sRecv mem cal.2.2.2.1 as (sEnt as cal.2.1 (fun L1 =>
          sx PG n d1 cal (fun _ => false) (fun _ _ _ _ _ => false) (fun v pa mem => sPush v st (fun st => sx PG n d me stop ks kr nx L st pa mem)) (nat_lit 0) L1 [] pa mem))))) (PG mi)) d)
        (fun o => sRet me.2.2.2.2 o st (fun v => kr v pa mem)) z) (sOp ir)) = true := by
      have h3 := h
      unfold sx at h3
      simp only [hs, hg] at h3
      exact h3
    obtain ⟨h4, h5⟩ := sIf_ok h2
    have e0 : pc = pc1 := Nat.eq_of_beq_eq_true h4
    subst e0
    refine ⟨ir, nx, aux, hg, ?_⟩
    cases ho : sOp ir with
    | inl f =>
      rw [ho] at h5
      exact Or.inl ⟨f, rfl, h5⟩
    | inr z =>
      cases z with
      | inl mi =>
        rw [ho] at h5
        cases d with
        | zero => exact nomatch (show false = true from h5)
        | succ d1 => exact Or.inr (Or.inl ⟨mi, d1, rfl, rfl, h5⟩)
      | inr o =>
        rw [ho] at h5
        exact Or.inr (Or.inr ⟨o, rfl, h5⟩)
theorem sRet_ok {rk o : Nat} {st : List sV} {k : Option sV → Bool} (h : sRet rk o st k = true) : (o = 0 ∧ rk = 0 ∧ st = [] ∧ k none = true) ∨ (o = 1 ∧ rk = 1 ∧ ∃ x, st = [.inl x] ∧ k (some (.inl x)) = true) ∨ (o = 1 ∧ rk = 2 ∧ ∃ n, n ≤ 1 ∧ st = [.inl (.natCast n)] ∧ k (some (.inl (.natCast n))) = true) ∨ (o = 2 ∧ rk = 3 ∧ ∃ x, st = [.inr (.inl x)] ∧ k (some (.inr (.inl x))) = true) ∨ (o = 3 ∧ rk = 4 ∧ ∃ x, st = [.inr (.inr (some x))] ∧ k (some (.inr (.inr (some x)))) = true) := by
  unfold sRet at h
  cases h0 : Nat.beq o (nat_lit 0) with
  | true =>
    simp only [h0] at h
    obtain ⟨h1, h⟩ := sIf_ok h
    obtain ⟨h2, h⟩ := sNil_ok h
    exact Or.inl ⟨Nat.eq_of_beq_eq_true h0, Nat.eq_of_beq_eq_true h1, h2, h⟩
  | false =>
    simp only [h0] at h
    right
    cases h1 : Nat.beq o (nat_lit 1) with
    | true =>
      simp only [h1] at h
      obtain ⟨x, st1, rfl, h⟩ := sTI_ok h
      rename_i h9
      clear h9
      obtain ⟨h2, h⟩ := sNil_ok h
      subst h2
      cases h3 : Nat.beq rk (nat_lit 1) with
      | true =>
        simp only [h3] at h
        exact Or.inl ⟨Nat.eq_of_beq_eq_true h1, Nat.eq_of_beq_eq_true h3, x, rfl, h⟩
      | false =>
        simp only [h3] at h
        obtain ⟨h4, h⟩ := sIf_ok h
        obtain ⟨n, h5, h⟩ := sNum_ok h
        subst h5
        obtain ⟨h6, h⟩ := sIf_ok h
        exact Or.inr (Or.inl ⟨Nat.eq_of_beq_eq_true h1, Nat.eq_of_beq_eq_true h4, n, Nat.le_of_ble_eq_true h6, rfl, h⟩)
    | false =>
      simp only [h1] at h
      right
      right
      cases h2 : Nat.beq o (nat_lit 2) with
      | true =>
        simp only [h2] at h
        obtain ⟨x, st1, h7, h⟩ := sTL_ok h
        subst h7
        obtain ⟨h3, h⟩ := sNil_ok h
        subst h3
        obtain ⟨h4, h⟩ := sIf_ok h
        exact Or.inl ⟨Nat.eq_of_beq_eq_true h2, Nat.eq_of_beq_eq_true h4, x, rfl, h⟩
      | false =>
        simp only [h2] at h
        obtain ⟨h3, h⟩ := sIf_ok h
        obtain ⟨x, st1, h7, h⟩ := sTR_ok h
        subst h7
        obtain ⟨h4, h⟩ := sNil_ok h
        subst h4
        obtain ⟨h5, h⟩ := sIf_ok h
        exact Or.inr ⟨Nat.eq_of_beq_eq_true h3, Nat.eq_of_beq_eq_true h5, x, rfl, h⟩
theorem sRecv_ok {mem : sM} {ci : Nat} {as : List sV} {k : Bool} (h : sRecv mem ci as k = true) : k = true ∧ (ci ≠ 99 → ∃ q as1 vs, as = .inr (.inr (some q)) :: as1 ∧ mem[q]? = some (0, ci, vs)) := by
  unfold sRecv at h
  cases h0 : Nat.beq ci (nat_lit 99) with
  | true =>
    simp only [h0] at h
    exact ⟨h, fun q => absurd (Nat.eq_of_beq_eq_true h0) q⟩
  | false =>
    simp only [h0] at h
    obtain ⟨q, as1, h1, h⟩ := sTR_ok h
    obtain ⟨cj, vs, h2, h⟩ := sCell_ok h
    obtain ⟨h3, h8⟩ := sIf_ok h
    have e0 : cj = ci := Nat.eq_of_beq_eq_true h3
    subst e0
    exact ⟨h8, fun _ => ⟨q, as1, vs, h1, h2⟩⟩
end SX
