/-! 29: a program logic over the executor: a method's points as an abstract predicate At with three rules (a run, a call, the entry) -/
def gQc (D : va_G) (cy : Nat → ClassId) (A : Nat → Prop) (G : Option Value → va_W → Prop) : Array Value → State → Outcome → State → Prop := fun _ st o t => (∃ (v : Option Value) (w : va_W), G v w ∧ o = .returned v ∧ va_P D vwCl w t.heap ∧ va_K D vwCl (sT cy) t ∧ va_D A w) ∧ va_F A st t
/-- the contract of method k at depth d from the world w: it returns, G holds of the answer and the world behind -/
def gMet (l : Launch) (D : va_G) (cy : Nat → ClassId) (al : Nat → Nat) (d k : Nat) (w : va_W) (as : List Value) (G : Option Value → va_W → Prop) : Prop :=
  ∀ sz : Nat, Met l (MI k).1 (Cond.code (MI k).1 (MI k).2.1 (MI k).2.2.1 (MI k).2.2.2 :: sTb) (sRm d) (va_Pc as (cPre D cy al w sz)) (gQc D cy (va_A w sz) G) 0 0 (va_A w sz)
theorem gMet.mono {l : Launch} {D : va_G} {cy : Nat → ClassId} {al : Nat → Nat} {d k : Nat} {w : va_W} {as : List Value} {G G2 : Option Value → va_W → Prop} (h : gMet l D cy al d k w as G) (hG : ∀ v w, G v w → G2 v w) : gMet l D cy al d k w as G2 := fun sz => (h sz).mono (fun _ _ q => q) (fun a s o t _ q => ⟨by
  obtain ⟨v, w2, q1, q2⟩ := q.1
  exact ⟨v, w2, hG _ _ q1, q2⟩, q.2⟩) (fun _ q => q)
theorem cPre_blind {D : va_G} {cy : Nat → ClassId} {al : Nat → Nat} {w : va_W} {sz : Nat} {av : List Value} : FrameBlind (va_Pc av (cPre D cy al w sz)) := fun a U g mk q => by
  obtain ⟨q0, q1, q2, q3, q4, q5, q6⟩ := q
  exact ⟨q0, q1, q2, va_K.moved (u := U) (U := U.calling g mk a) (Vm.Alike.refl U.vm) q3, q4, sSt.moved (u := U) (U := U.calling g mk a) (Vm.Alike.refl U.vm) q5, sNw.same (u := U) (U := U.calling g mk a) rfl q6⟩
abbrev gAt : Type := Nat → List (Option Value) → List Value → va_W → Prop
def gLo (ls : Array Slot) (nL : Nat) (LV : List (Option Value)) : Prop := ls.size = nL ∧ lv_wf ls ∧ (∀ (i : Nat) (v : Value), LV[i]? = some (some v) → ls[i]? = some (.val v)) ∧ LV.length = nL
theorem gLo_iff {r : sE} {al : Nat → Nat} {ls : Array Slot} {nL : Nat} {L : sL} : gLo ls nL (L.map (Option.map (sVal r al))) ↔ sLo r al ls nL L := by
  unfold gLo sLo
  constructor
  · rintro ⟨h1, h2, h3, h4⟩
    refine ⟨h1, h2, fun i v hv => h3 i _ (by rw [List.getElem?_map, hv]; rfl), by simpa using h4⟩
  · rintro ⟨h1, h2, h3, h4⟩
    refine ⟨h1, h2, fun i v hv => ?_, by simpa using h4⟩
    rw [List.getElem?_map] at hv
    obtain ⟨o, h5, h6⟩ := Option.map_eq_some_iff.mp hv
    obtain ⟨x, h7, h8⟩ := Option.map_eq_some_iff.mp h6
    subst h7 h8
    exact h3 i x h5
/-- the row of a call -/
def gRow (k pc nx mi : Nat) : Prop := ∃ ir aux, (PG k).1.get pc = (pc, ir, nx, aux) ∧ sOp ir = .inr (.inl mi)
/-- the receiver of a virtual call, if it is one -/
def gRecv (mi : Nat) (as : List Value) (w : va_W) : Prop := (PG mi).2.2.2.1 = 99 ∨ ∃ (b : Nat) (as1 : List Value) (j : Nat) (fs : List Value), as = .ref b :: as1 ∧ w[j]? = some (b, (Sum.inr ((PG mi).2.2.2.1, fs) : va_E))
/-- the rules of a frame of method k: Rt is what is to hold at its return -/
def gFC (l : Launch) (D : va_G) (cy : Nat → ClassId) (al : Nat → Nat) (k d : Nat) (Rt : Option Value → va_W → Prop) (At : gAt) : Prop :=
  (∀ (r : sE) (hid : Nat → va_E) (rest : va_W) (fuel : Nat) (stop : Nat → Bool) (ks : sKs) (kr : sKr) (pc : Nat) (L : sL) (st : List sV) (pa : List sK) (mem : sM),
    sx PG fuel d (PG k) stop ks kr pc L st pa mem = true → sPa r pa →
    (∀ (pc : Nat) (L : sL) (st : List sV) (pa : List sK) (mem : sM), ks pc L st pa mem = true → sPa r pa → At pc (L.map (Option.map (sVal r al))) (st.map (sVal r al)) (sW r al cy hid rest mem)) →
    (∀ (v : Option sV) (pa : List sK) (mem : sM), kr v pa mem = true → sPa r pa → Rt (v.map (sVal r al)) (sW r al cy hid rest mem)) →
    At pc (L.map (Option.map (sVal r al))) (st.map (sVal r al)) (sW r al cy hid rest mem)) ∧
  (∀ (pc nx mi d1 : Nat) (LV : List (Option Value)) (as SV : List Value) (w : va_W) (G : Option Value → va_W → Prop),
    gRow k pc nx mi → d = d1 + 1 → (SV.map fun v => v.category).sum ≤ 8 → as.length = (PG mi).2.2.1 → gRecv mi as w → gMet l D cy al d1 mi w as G →
    (∀ v w2, G v w2 → At nx LV (v.toList ++ SV) w2) → At pc LV (as.reverse ++ SV) w)
section GL
variable {D : va_G} {cy : Nat → ClassId} {al : Nat → Nat}
theorem g_call {p : Program} {l : Launch} {e : Env} {R : Room} {s : State} {m : MethodId} {args : Array Value} {below : List Frame} {meth : Method} {c : Code} {H : Heap} {locs : List Loc} {Q : State → Prop} {pc cells slots : Nat} {ls : Array Slot} {st0 rs : List Value} {a : Array Value} {A A1 free : Nat → Prop} {G : Option Value → va_W → Prop}
    (hr : va_Run p l e R s m args below meth c H locs cells slots 0 0 (F0 m pc ls st0) rs (gQc D cy A1 G a) free) (hS : va_S A s.heap H locs) (hA : ∀ q, q < H.size → A1 q → A q) (hf : ∀ q, free q → A q)
    (kk : ∀ (v : Option Value) (w : va_W) (H1 : Heap) (locs1 : List Loc), G v w → va_P D vwCl w H1 → va_D A1 w → va_S A s.heap H1 locs1 → W p l e R s m args below meth c H1 locs1 cells slots Q (F0 m (pc + 3) ls (v.toList ++ rs))) : W p l e R s m args below meth c H locs cells slots Q (F0 m pc ls st0) := by
  intro T hT X
  obtain ⟨v, st₀, t, T', L, h0, X', hL, e1, e2, ⟨⟨v1, w, k1, hv, k3, k4, k5⟩, hz, hk⟩, st⟩ := hr T hT X
  cases hv
  rw [h0] at hz hk
  obtain ⟨t2, a1, b1⟩ := kk v w T'.heap (locs ++ L) k1 (by rw [e1]; exact k3) k5
    ⟨Nat.le_trans hS.1 (by rw [e1]; exact hz), fun q h1 h2 => by rw [e1, hk q (Nat.lt_of_lt_of_le h1 hS.1) (fun z => h2 (hA q (Nat.lt_of_lt_of_le h1 hS.1) z))]; exact hS.2.1 q h1 h2, fun q hq => by
      rcases List.mem_append.mp hq with h | h
      · exact hS.2.2 q h
      · exact hf _ (hL q h)⟩ T' rfl X'
  exact ⟨t2, st t2 a1, b1⟩
set_option maxHeartbeats 4000000 in
theorem g_rules {l : Launch} {k d : Nat} {A : Nat → Prop} {p : Program} {e : Env} {R : Room} {s : State} {m : MethodId} {args : Array Value} {below : List Frame} {meth : Method} {c : Code} {Qc : Array Value → State → Outcome → State → Prop} {free : Addr → Prop} {Rt : Option Value → va_W → Prop}
    (X : sCtx MI k d D cy al A p R s m args meth c)
    (hkr : ∀ (v : Option Value) (w : va_W) (H : Heap) (locs : List Loc), Rt v w → va_P D vwCl w H → va_D A w → va_S A s.heap H locs → ∀ t : State, t.heap = H → s.WarmedH t.vm → Qc args s (.returned v) t)
    (hfree : ∀ q, A q → free q) :
    gFC l D cy al k d Rt (fun pc LV SV w => ∀ (H : Heap) (locs : List Loc) (ls : Array Slot), va_P D vwCl w H → va_D A w → va_S A s.heap H locs → gLo ls (MI k).2.2.1 LV → W p l e R s m args below meth c H locs 0 0 (MQ below Qc args s 0 0 free) (F0 m pc ls SV)) := by
  constructor
  · intro r hid rest fuel stop ks kr pc L st pa mem h hp hks hkr2 H locs ls hP hD hS hl
    exact sx_w (D := D) (cy := cy) (r := r) (al := al) (hid := hid) (rest := rest) (l := l) sGood_ok sFld_ok sCpw_ok fuel k d A p e R s m args below meth c Qc free stop ks kr X
      (fun pc L st pa mem H locs ls q1 q2 q3 q4 => hks pc L st pa mem q1 q2 H locs ls q3.1 q3.2.1 q3.2.2 (gLo_iff.mpr q4))
      (fun v pa mem H locs q1 q2 q3 => hkr _ _ H locs (hkr2 v pa mem q1 q2) q3.1 q3.2.1 q3.2.2)
      hfree pc L st pa mem H locs ls h hp ⟨hP, hD, hS⟩ (gLo_iff.mp hl)
  · intro pc nx mi d1 LV as SV w G hrow hd1 hcat hna hrecv hM0 hk H locs ls hP hD hS hl
    subst hd1
    obtain ⟨hx, hb, hml, hown, hts, hNw, hK, hst, hA, hfr, hlo, hret, hlocks⟩ := X
    obtain ⟨-, hR⟩ := sGood_ok k
    have hrel := hR pc
    obtain ⟨ir, aux, hg, h1⟩ := hrow
    rw [hg] at hrel
    obtain ⟨⟨b1, b2, b3, b4, b5, b6, b7, b8⟩, -⟩ := sGood_ok mi
    have hM := hM0 H.size
    have hFc : ∀ q, va_A w H.size q → A q := fun q hq => by
      rcases hq with ⟨j, en, hj⟩ | hq
      · exact hD.2 j _ hj
      · exact hA q (Nat.le_trans hS.1 hq)
    have hpre : ∀ U : State, U.heap = H → s.WarmedH U.vm → va_Pc as (cPre D cy al w H.size) as.toArray U := fun U hU hw =>
      ⟨rfl, by rw [hU], by rw [hU]; exact hP, va_K.moved hw.alike hK, hD.weaken (fun _ _ _ _ => trivial), by
        rw [hU]
        exact ((hst.kept (fun a h1 h2 => hS.2.1 a h1 h2)).narrow hFc).moved hw.alike, hNw.warm hw⟩
    have hroom : (sRm d1).frames + 1 ≤ R.frames ∧ 8 + ((MI mi).2.2.1 + 11) + (sRm d1).locals ≤ R.locals := ⟨hfr, by show 8 + ((MI mi).2.2.1 + 11) + 64 * (d1 + 1) ≤ R.locals; omega⟩
    have hgi := lw_goodIn b1
    have cont : ∀ (pc1 : Nat), nx = pc1 + 3 → ∀ (v : Option Value) (w2 : va_W) (H1 : Heap) (locs1 : List Loc), G v w2 → va_P D vwCl w2 H1 → va_D (va_A w H.size) w2 → va_S A s.heap H1 locs1 → W p l e R s m args below meth c H1 locs1 0 0 (MQ below Qc args s 0 0 free) (F0 m (pc1 + 3) ls (v.toList ++ SV)) := by
      intro pc1 hnx v w2 H1 locs1 q1 q3 q4 q5
      rw [← hnx]
      exact hk v w2 q1 H1 locs1 ls q3 (q4.weaken (fun j y hy hz => hFc _ hz)) q5 hl
    have stat : ∀ idx : Nat, decode (MI k).2.1 pc = .ok (.invokestatic idx, 3) → nx = pc + 3 → sLinkM (MI k).1.cls idx (MI mi).1 → (PG mi).2.2.2.1 = 99 → W p l e R s m args below meth c H locs 0 0 (MQ below Qc args s 0 0 free) (F0 m pc ls (as.reverse ++ SV)) := by
      intro idx g1 g2 g3 g4
      rcases b7 with ⟨-, w1, w2⟩ | ⟨w0, -⟩
      · rcases g3 with g3 | ⟨host, g3⟩
        · exact g_call (va_runS ⟨hx, hb, hml, hown, hts⟩ hM ⟨callB_of (PG mi).2.2.1 hts hgi rfl rfl rfl (hts _ b2) (hts _ g3) ⟨b3.1, b3.2, w2⟩ hroom, hts _ w1⟩ ⟨cPre_blind, hpre⟩ rfl hna hl.1 rfl (lv_room hcat) g1 ⟨Nat.zero_le _, Nat.zero_le _⟩) hS (fun q _ h => hFc q h) hFc (cont pc g2)
        · exact g_call (va_runSN ⟨hx, hb, hml, hown, hts⟩ hM ⟨va_cnB (PG mi).2.2.1 hts hgi rfl rfl rfl (hNw _ g3) (hts _ b2) ⟨b3.1, b3.2, w2⟩ hroom, hts _ w1, trivial⟩ ⟨cPre_blind, hpre⟩ rfl hna hl.1 rfl (lv_room hcat) g1 ⟨Nat.zero_le _, Nat.zero_le _⟩) hS (fun q _ h => hFc q h) hFc (cont pc g2)
      · exact absurd g4 w0
    have virt : ∀ idx : Nat, decode (MI k).2.1 pc = .ok (.invokevirtual idx, 3) → nx = pc + 3 → sLinkM (MI k).1.cls idx (MI mi).1 → (PG mi).2.2.2.1 ≠ 99 → W p l e R s m args below meth c H locs 0 0 (MQ below Qc args s 0 0 free) (F0 m pc ls (as.reverse ++ SV)) := by
      intro idx g1 g2 g3 g4
      rcases b7 with ⟨w0, -⟩ | ⟨-, w1, w2, ⟨T, N, w3⟩, nn, w4, w5⟩
      · exact absurd w0 g4
      · rcases hrecv with hrecv | ⟨b, as1, j, fs, rfl, hj⟩
        · exact absurd hrecv g4
        have hrc := va_recv hK hP w3 hj
        have hn : as1.length = nn := by
          rw [List.length_cons] at hna
          omega
        have hst2 : (F0 m pc ls ((.ref b :: as1 : List Value).reverse ++ SV)).stack = as1.reverse ++ .ref b :: SV := by simp
        rcases g3 with g3 | ⟨host, g3⟩
        · exact g_call (va_runV (C := (MI mi).1.cls) (As := as1) (b := b) ⟨hx, hb, hml, hown, hts⟩ hM ⟨callB_of nn hts hgi rfl rfl rfl (hts _ b2) (hts _ g3) ⟨b3.1, b3.2, w4⟩ hroom, hts _ w1, hts _ w2⟩ ⟨cPre_blind, hrc, hpre⟩ rfl hn hl.1 hst2 (lv_room hcat) g1 ⟨Nat.zero_le _, Nat.zero_le _⟩) hS (fun q _ h => hFc q h) hFc (cont pc g2)
        · exact g_call (va_runVN (C := (MI mi).1.cls) (As := as1) (b := b) ⟨hx, hb, hml, hown, hts⟩ hM ⟨va_cnB nn hts hgi rfl rfl rfl (hNw _ g3) (hts _ b2) ⟨b3.1, b3.2, w4⟩ hroom, hts _ w1, hts _ w2⟩ ⟨cPre_blind, hrc, hpre⟩ rfl hn hl.1 hst2 (lv_room hcat) g1 ⟨Nat.zero_le _, Nat.zero_le _⟩) hS (fun q _ h => hFc q h) hFc (cont pc g2)
    cases ir
    case invokestatic kk =>
      cases h1
      obtain ⟨idx, g1, g2, g3, g4⟩ := hrel
      exact stat idx g1 g2 g3 g4
    case invokevirtual kk =>
      cases h1
      obtain ⟨idx, g1, g2, g3, g4⟩ := hrel
      exact virt idx g1 g2 g3 g4
    all_goals first | exact False.elim hrel | cases h1
/-- a contract out of the entry point's assertion -/
theorem gMet_of {l : Launch} {d k : Nat} {w : va_W} {r : sE} {as : List sV} {L0 : sL} {G : Option Value → va_W → Prop} (hE : sEnt as (PG k).2.1 (fun L => eqL eqO L L0) = true)
    (h : ∀ At : gAt, gFC l D cy al k d G At → At 0 (L0.map (Option.map (sVal r al))) [] w) : gMet l D cy al d k w (as.map (sVal r al)) G := by
  intro sz
  obtain ⟨⟨c1, c2, c3, c4, c5, c6, c7, c8⟩, -⟩ := sGood_ok k
  refine Met.ofW (cc := (MI k).2.1) (maxL := (MI k).2.2.1) (ret := (MI k).2.2.2) c4 rfl ?_
  intro p e s m args below meth c s₁ B hml hv
  obtain ⟨rfl, hsz, hP, hK, hD0, hst, hNw⟩ := hv
  subst hsz
  have hts := atoms_spec (ws := Cond.code (MI k).1 (MI k).2.1 (MI k).2.2.1 (MI k).2.2.2 :: sTb) B.pre
  have hown : s.vm.findClass (MI k).1.cls = some m.cls := findClass_of_methodNamed B.named
  have hD := hD0.self (sz := s.heap.size)
  have hA : ∀ q : Nat, s.heap.size ≤ q → va_A w s.heap.size q := fun q h => Or.inr h
  obtain ⟨L, h1, h2, h3, h4⟩ := sEnt_ok (r := r) (al := al) _ _ _ hE
  have eL : L = L0 := eqL_ok (fun _ _ => eqO_ok) _ _ h1
  subst eL
  rw [c5] at h2 h3
  have hl := lv_entry (as.map (sVal r al)) (n := (MI k).2.2.1) h3
  rw [lg_entry_eq]
  generalize (lg_sl (as.map (sVal r al)) ++ List.replicate ((MI k).2.2.1 - (lg_sl (as.map (sVal r al))).length) Slot.unset).toArray = ls at hl ⊢
  have hlo : sLo r al ls (MI k).2.2.1 L := ⟨hl.1, hl.2.1, fun i v q => hl.2.2 (i, sVal r al v) (by have := h4 0 i v q; rwa [Nat.zero_add] at this), h2⟩
  have X : sCtx MI k d D cy al (va_A w s.heap.size) p (headSpec (Cond.code (MI k).1 (MI k).2.1 (MI k).2.2.1 (MI k).2.2.2 :: sTb) (sRm d)).room s m (as.map (sVal r al)).toArray meth c :=
    ⟨B.exec, B.bytes, hml, hown, fun w h => hts w (List.mem_cons_of_mem _ h), hNw, hK, hst, hA, Nat.le_refl _, Nat.le_refl _, B.returns, B.notSynchronized⟩
  refine h _ (g_rules (p := p) (e := e) (below := below) (Qc := gQc D cy (va_A w s.heap.size) G) (free := va_A w s.heap.size) X ?_ (fun q h => h)) s.heap [] ls hP hD va_S.rf (gLo_iff.mpr hlo)
  intro v w2 H1 locs1 q1 q2 q3 q4 t ht hw
  exact ⟨⟨v, w2, q1, rfl, by rw [ht]; exact q2, va_K.moved hw.alike hK, q3⟩, q4.F ht⟩
/-- a run of the whole method is a contract -/
theorem gMet_run (l : Launch) {r : sE} {hid : Nat → va_E} {rest : va_W} {fuel d k : Nat} {pa : List sK} {mem : sM} {as : List sV} {kr : sKr} {G : Option Value → va_W → Prop} (hp : sPa r pa) (h : sRun fuel d k pa mem as kr = true)
    (hG : ∀ (v : Option sV) (pa : List sK) (mem : sM), kr v pa mem = true → sPa r pa → G (v.map (sVal r al)) (sW r al cy hid rest mem)) : gMet l D cy al d k (sW r al cy hid rest mem) (as.map (sVal r al)) G := by
  intro sz
  refine (sRun_met (D := D) (cy := cy) (hid := hid) (rest := rest) (al := al) l hp h sz).mono (fun _ _ q => q) (fun a s o t _ q => ?_) (fun _ q => q)
  obtain ⟨⟨v, pa1, mem1, q1, q2, q3, q4⟩, q5⟩ := q
  exact ⟨⟨_, _, hG v pa1 mem1 q1 q2, q3, q4⟩, q5⟩
end GL
