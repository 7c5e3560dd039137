/-! 12: the main induction -/
section SY
variable {D : va_G} {cy : Nat → ClassId} {r : sE} {al : Nat → Nat} {hid : Nat → va_E} {rest : va_W}
/-- what a run says of a method's frame -/
def sWok (MI : Nat → sMi) (PG : Nat → sMe) (l : Launch) (D : va_G) (cy : Nat → ClassId) (hid : Nat → va_E) (rest : va_W) (r : sE) (al : Nat → Nat) (n : Nat) : Prop :=
  ∀ (k d : Nat) (A : Nat → Prop) (p : Program) (e : Env) (R : Room) (s : State) (m : MethodId) (args : Array Value) (below : List Frame) (meth : Method) (c : Code) (Qc : Array Value → State → Outcome → State → Prop) (free : Addr → Prop) (stop : Nat → Bool) (ks : sKs) (kr : sKr),
    sCtx MI k d D cy al A p R s m args meth c →
    (∀ (pc : Nat) (L : sL) (st : List sV) (pa : List sK) (mem : sM) (H : Heap) (locs : List Loc) (ls : Array Slot), ks pc L st pa mem = true → sPa r pa → sLv D cy A r al hid rest s.heap mem H locs → sLo r al ls (MI k).2.2.1 L → W p l e R s m args below meth c H locs 0 0 (MQ below Qc args s 0 0 free) (F0 m pc ls (st.map (sVal r al)))) →
    (∀ (v : Option sV) (pa : List sK) (mem : sM) (H : Heap) (locs : List Loc), kr v pa mem = true → sPa r pa → sLv D cy A r al hid rest s.heap mem H locs → ∀ t : State, t.heap = H → s.WarmedH t.vm → Qc args s (.returned (v.map (sVal r al))) t) →
    (∀ q, A q → free q) →
    sGoOk (fun H locs g => W p l e R s m args below meth c H locs 0 0 (MQ below Qc args s 0 0 free) g) (sLv D cy A r al hid rest s.heap) m r al (MI k).2.2.1 (sx PG n d (PG k) stop ks kr)
/-- .. gives the method's contract -/
theorem sMet_of {MI : Nat → sMi} {PG : Nat → sMe} {l : Launch} (hG : sGood MI PG) {n : Nat} (hW : sWok MI PG l D cy hid rest r al n) {k d : Nat} {mem : sM} {as : List sV} {pa : List sK} {kr : sKr} (hp : sPa r pa) (h : sEnt as (PG k).2.1 (fun L => sx PG n d (PG k) (fun _ => false) (fun _ _ _ _ _ => false) kr (nat_lit 0) L [] pa mem) = true) : sMet MI l D cy hid rest r al d k mem as kr := by
  intro sz
  obtain ⟨⟨c1, c2, c3, c4, c5, c6, c7, c8⟩, -⟩ := hG k
  refine Met.ofW (cc := (MI k).2.1) (maxL := (MI k).2.2.1) (ret := (MI k).2.2.2) c4 rfl ?_
  intro p e s m args below meth c s₁ B hml hv
  obtain ⟨rfl, hsz, hP, hK, hD0, hst, hNw⟩ := hv
  subst hsz
  have hts := atoms_spec (ws := Cond.code (MI k).1 (MI k).2.1 (MI k).2.2.1 (MI k).2.2.2 :: sTb) B.pre
  have hown : s.vm.findClass (MI k).1.cls = some m.cls := findClass_of_methodNamed B.named
  have hD := hD0.self (sz := s.heap.size)
  have hA : ∀ q : Nat, s.heap.size ≤ q → va_A (sW r al cy hid rest mem) s.heap.size q := fun q h => Or.inr h
  obtain ⟨L, h1, h2, h3, h4⟩ := sEnt_ok (r := r) (al := al) _ _ _ h
  rw [c5] at h2 h3
  have hl := lv_entry (as.map (sVal r al)) (n := (MI k).2.2.1) h3
  rw [lg_entry_eq]
  generalize (lg_sl (as.map (sVal r al)) ++ List.replicate ((MI k).2.2.1 - (lg_sl (as.map (sVal r al))).length) Slot.unset).toArray = ls at hl ⊢
  have hlo : sLo r al ls (MI k).2.2.1 L := ⟨hl.1, hl.2.1, fun i v q => hl.2.2 (i, sVal r al v) (by have := h4 0 i v q; rwa [Nat.zero_add] at this), h2⟩
  have X : sCtx MI k d D cy al (va_A (sW r al cy hid rest mem) s.heap.size) p (headSpec (Cond.code (MI k).1 (MI k).2.1 (MI k).2.2.1 (MI k).2.2.2 :: sTb) (sRm d)).room s m (as.map (sVal r al)).toArray meth c :=
    ⟨B.exec, B.bytes, hml, hown, fun w h => hts w (List.mem_cons_of_mem _ h), hNw, hK, hst, hA, Nat.le_refl _, Nat.le_refl _, B.returns, B.notSynchronized⟩
  refine hW k d _ p e _ s m _ below meth c _ _ (fun _ => false) (fun _ _ _ _ _ => false) kr X (fun _ _ _ _ _ _ _ _ q => nomatch q) ?_ (fun q h => h) 0 L [] pa mem s.heap [] ls h1 hp ⟨hP, hD, va_S.rf⟩ hlo
  intro v pa1 mem1 H1 locs1 q1 q2 q3 t ht hw
  exact ⟨⟨v, pa1, mem1, q1, q2, rfl, by rw [ht]; exact q3.1, va_K.moved hw.alike hK, q3.2.1⟩, q3.2.2.F ht⟩
set_option maxHeartbeats 4000000 in
theorem sx_w {MI : Nat → sMi} {PG : Nat → sMe} {l : Launch} (hG : sGood MI PG) (hF : sFld) (hC : sCpw) : ∀ n : Nat, sWok MI PG l D cy hid rest r al n := by
  intro n
  induction n with
  | zero => intro k d A p e R s m args below meth c Qc free stop ks kr X hks hkr hfree pc L st pa mem H locs ls h; exact nomatch (show false = true from h)
  | succ n ih =>
    intro k d A p e R s m args below meth c Qc free stop ks kr X hks hkr hfree pc L st pa mem H locs ls h hp hv hl
    have ihk := ih k d A p e R s m args below meth c Qc free stop ks kr X hks hkr hfree
    obtain ⟨hx, hb, hml, hown, hts, hNw, hK, hst, hA, hfr, hlo, hret, hlocks⟩ := X
    obtain ⟨⟨c1, c2, c3, c4, c5, c6, c7, c8⟩, hR⟩ := hG k
    rcases sx_step h with h | ⟨ir, nx, aux, hg, h⟩
    · exact hks _ _ _ _ _ _ _ _ h hp hv hl
    have hrel := hR pc
    rw [hg] at hrel
    rcases h with ⟨f, h1, h2⟩ | ⟨mi, d1, h1, hd1, h2⟩ | ⟨o, h1, h2⟩
    · exact so_all hF hC hx hb hml hown hts hNw hK hst (by omega) (by omega) ⟨Nat.zero_le _, Nat.zero_le _⟩ hrel h1 _ ihk _ _ _ _ _ _ _ h2 hp hv hl
    · subst hd1
      obtain ⟨as, st1, rfl, hna, h3⟩ := sPop_ok _ _ _ _ h2
      rw [List.append_nil] at h3
      obtain ⟨h4, h5⟩ := sIf_ok h3
      obtain ⟨h6, h7⟩ := sRecv_ok h5
      obtain ⟨⟨b1, b2, b3, b4, b5, b6, b7, b8⟩, -⟩ := hG mi
      have hM := sMet_of hG ih hp h6 H.size
      have hcat : ((st1.map (sVal r al)).map fun v => v.category).sum ≤ 8 := by
        rw [sCats_ok]
        exact Nat.le_of_ble_eq_true h4
      have hFc : ∀ q, va_A (sW r al cy hid rest mem) H.size q → A q := fun q hq => by
        rcases hq with ⟨j, en, hj⟩ | hq
        · exact hv.2.1.2 j _ hj
        · exact hA q (Nat.le_trans hv.2.2.1 hq)
      have hpre : ∀ U : State, U.heap = H → s.WarmedH U.vm → va_Pc (as.map (sVal r al)) (sPre D cy hid rest r al mem H.size) (as.map (sVal r al)).toArray U := fun U hU hw =>
        ⟨rfl, by rw [hU], by rw [hU]; exact hv.1, va_K.moved hw.alike hK, hv.2.1.weaken (fun _ _ _ _ => trivial), by
          rw [hU]
          exact ((hst.kept (fun a h1 h2 => hv.2.2.2.1 a h1 h2)).narrow hFc).moved hw.alike, hNw.warm hw⟩
      have hroom : (sRm d1).frames + 1 ≤ R.frames ∧ 8 + ((MI mi).2.2.1 + 11) + (sRm d1).locals ≤ R.locals := ⟨hfr, by show 8 + ((MI mi).2.2.1 + 11) + 64 * (d1 + 1) ≤ R.locals; omega⟩
      have hgi := lw_goodIn b1
      have cont : ∀ (pc1 : Nat), nx = pc1 + 3 → ∀ (v : Option sV) (pa1 : List sK) (mem1 : sM) (H1 : Heap) (locs1 : List Loc), sPush v st1 (fun st => sx PG n (d1 + 1) (PG k) stop ks kr nx L st pa1 mem1) = true → sPa r pa1 → va_P D vwCl (sW r al cy hid rest mem1) H1 → va_D (va_A (sW r al cy hid rest mem) H.size) (sW r al cy hid rest mem1) → va_S A s.heap H1 locs1 → W p l e R s m args below meth c H1 locs1 0 0 (MQ below Qc args s 0 0 free) (F0 m (pc1 + 3) ls ((v.map (sVal r al)).toList ++ st1.map (sVal r al))) := by
        intro pc1 hnx v pa1 mem1 H1 locs1 q1 q2 q3 q4 q5
        have hv1 : sLv D cy A r al hid rest s.heap mem1 H1 locs1 := ⟨q3, q4.weaken (fun j y hy hz => hFc _ hz), q5⟩
        rw [← hnx]
        cases v with
        | none => exact ihk _ _ _ _ _ _ _ _ q1 q2 hv1 hl
        | some v => exact ihk _ _ _ _ _ _ _ _ (show sx PG n (d1 + 1) (PG k) stop ks kr nx L (v :: st1) pa1 mem1 = true from q1) q2 hv1 hl
      have hstk : (as.reverse ++ st1).map (sVal r al) = (as.map (sVal r al)).reverse ++ st1.map (sVal r al) := by rw [List.map_append, List.map_reverse]
      show W p l e R s m args below meth c H locs 0 0 (MQ below Qc args s 0 0 free) (F0 m pc ls ((as.reverse ++ st1).map (sVal r al)))
      rw [hstk]
      have stat : ∀ idx : Nat, decode (MI k).2.1 pc = .ok (.invokestatic idx, 3) → nx = pc + 3 → sLinkM (MI k).1.cls idx (MI mi).1 → (PG mi).2.2.2.1 = 99 → W p l e R s m args below meth c H locs 0 0 (MQ below Qc args s 0 0 free) (F0 m pc ls ((as.map (sVal r al)).reverse ++ st1.map (sVal r al))) := by
        intro idx g1 g2 g3 g4
        rcases b7 with ⟨-, w1, w2⟩ | ⟨w0, -⟩
        · have hn : (as.map (sVal r al)).length = (PG mi).2.2.1 := by rw [List.length_map]; exact hna
          rcases g3 with g3 | ⟨host, g3⟩
          · refine s_call (va_runS ⟨hx, hb, hml, hown, hts⟩ hM ⟨callB_of (PG mi).2.2.1 hts hgi rfl rfl rfl (hts _ b2) (hts _ g3) ⟨b3.1, b3.2, w2⟩ hroom, hts _ w1⟩ ⟨sPre_blind, hpre⟩ rfl hn hl.1 rfl (lv_room hcat) g1 ⟨Nat.zero_le _, Nat.zero_le _⟩) hv.2.2 (fun q _ h => hFc q h) hFc (cont pc g2)
          · refine s_call (va_runSN ⟨hx, hb, hml, hown, hts⟩ hM ⟨va_cnB (PG mi).2.2.1 hts hgi rfl rfl rfl (hNw _ g3) (hts _ b2) ⟨b3.1, b3.2, w2⟩ hroom, hts _ w1, trivial⟩ ⟨sPre_blind, hpre⟩ rfl hn hl.1 rfl (lv_room hcat) g1 ⟨Nat.zero_le _, Nat.zero_le _⟩) hv.2.2 (fun q _ h => hFc q h) hFc (cont pc g2)
        · exact absurd g4 w0
      have virt : ∀ idx : Nat, decode (MI k).2.1 pc = .ok (.invokevirtual idx, 3) → nx = pc + 3 → sLinkM (MI k).1.cls idx (MI mi).1 → (PG mi).2.2.2.1 ≠ 99 → W p l e R s m args below meth c H locs 0 0 (MQ below Qc args s 0 0 free) (F0 m pc ls ((as.map (sVal r al)).reverse ++ st1.map (sVal r al))) := by
        intro idx g1 g2 g3 g4
        rcases b7 with ⟨w0, -⟩ | ⟨-, w1, w2, ⟨T, N, w3⟩, nn, w4, w5⟩
        · exact absurd w0 g4
        · obtain ⟨q0, as1, vs, rfl, hq⟩ := h7 g4
          have he := sW_get (r := r) (al := al) (cy := cy) (hid := hid) (rest := rest) hq
          have hrecv := va_recv hK hv.1 w3 he
          have hn : (as1.map (sVal r al)).length = nn := by
            rw [List.length_map]
            rw [List.length_cons] at hna
            omega
          have hst2 : (F0 m pc ls (((.inr (.inr (some q0)) :: as1 : List sV).map (sVal r al)).reverse ++ st1.map (sVal r al))).stack = (as1.map (sVal r al)).reverse ++ .ref (al q0) :: st1.map (sVal r al) := by simp [sVal]
          rcases g3 with g3 | ⟨host, g3⟩
          · refine s_call (va_runV (C := (MI mi).1.cls) (As := as1.map (sVal r al)) (b := al q0) ⟨hx, hb, hml, hown, hts⟩ hM ⟨callB_of nn hts hgi rfl rfl rfl (hts _ b2) (hts _ g3) ⟨b3.1, b3.2, w4⟩ hroom, hts _ w1, hts _ w2⟩ ⟨sPre_blind, hrecv, hpre⟩ rfl hn hl.1 hst2 (lv_room hcat) g1 ⟨Nat.zero_le _, Nat.zero_le _⟩) hv.2.2 (fun q _ h => hFc q h) hFc (cont pc g2)
          · refine s_call (va_runVN (C := (MI mi).1.cls) (As := as1.map (sVal r al)) (b := al q0) ⟨hx, hb, hml, hown, hts⟩ hM ⟨va_cnB nn hts hgi rfl rfl rfl (hNw _ g3) (hts _ b2) ⟨b3.1, b3.2, w4⟩ hroom, hts _ w1, hts _ w2⟩ ⟨sPre_blind, hrecv, hpre⟩ rfl hn hl.1 hst2 (lv_room hcat) g1 ⟨Nat.zero_le _, Nat.zero_le _⟩) hv.2.2 (fun q _ h => hFc q h) hFc (cont pc g2)
      cases ir
      case invokestatic kk =>
        cases h1
        obtain ⟨idx, g1, g2, g3, g4⟩ := hrel
        exact stat idx g1 g2 g3 g4
      case invokevirtual kk =>
        cases h1
        obtain ⟨idx, g1, g2, g3, g4⟩ := hrel
        exact virt idx g1 g2 g3 g4
      all_goals first | exact False.elim hrel | cases h1
    · have key := sRet_ok h2
      have hfl : ∀ q ∈ locs, free q.base := fun q hq => hfree _ (hv.2.2.2.2 q hq)
      cases ir
      case return_ =>
        cases h1
        rcases key with ⟨-, k2, rfl, k4⟩ | ⟨q, -⟩ | ⟨q, -⟩ | ⟨q, -⟩ | ⟨q, -⟩
        · rcases c8 with ⟨-, g⟩ | ⟨g, -⟩ | ⟨g, -⟩ | ⟨g, -⟩ | ⟨g, -⟩
          · exact W.vret hx hb (by rw [hret, g]) (fun t ht hw => hkr _ _ _ _ _ k4 hp hv t ht hw) hfl hrel hlocks
          all_goals first | omega | exact absurd q (by decide)
        all_goals first | omega | exact absurd q (by decide)
      case ireturn =>
        cases h1
        rcases key with ⟨q, -⟩ | ⟨-, k2, x, rfl, k4⟩ | ⟨-, k2, nn, kn, rfl, k4⟩ | ⟨q, -⟩ | ⟨q, -⟩
        · first | omega | exact absurd q (by decide)
        · rcases c8 with ⟨g, -⟩ | ⟨-, g⟩ | ⟨g, -⟩ | ⟨g, -⟩ | ⟨g, -⟩
          · first | omega | exact absurd q (by decide)
          · exact W.iret hx hb (by rw [hret, g]) (fun t ht hw => hkr _ _ _ _ _ k4 hp hv t ht hw) hfl hrel hlocks
          all_goals first | omega | exact absurd q (by decide)
        · rcases c8 with ⟨g, -⟩ | ⟨g, -⟩ | ⟨-, g⟩ | ⟨g, -⟩ | ⟨g, -⟩
          · first | omega | exact absurd q (by decide)
          · first | omega | exact absurd q (by decide)
          · refine W.zret hx hb (by rw [hret, g]) ?_ (fun t ht hw => hkr _ _ _ _ _ k4 hp hv t ht hw) hfl hrel hlocks
            rcases (show nn = 0 ∨ nn = 1 by omega) with rfl | rfl <;> simp only [sI, sD_c] <;> decide
          all_goals first | omega | exact absurd q (by decide)
        all_goals first | omega | exact absurd q (by decide)
      case lreturn =>
        cases h1
        rcases key with ⟨q, -⟩ | ⟨q, -⟩ | ⟨q, -⟩ | ⟨-, k2, x, rfl, k4⟩ | ⟨q, -⟩
        · first | omega | exact absurd q (by decide)
        · first | omega | exact absurd q (by decide)
        · first | omega | exact absurd q (by decide)
        · rcases c8 with ⟨g, -⟩ | ⟨g, -⟩ | ⟨g, -⟩ | ⟨-, g⟩ | ⟨g, -⟩
          · first | omega | exact absurd q (by decide)
          · first | omega | exact absurd q (by decide)
          · first | omega | exact absurd q (by decide)
          · exact W.lret hx hb (by rw [hret, g]) (fun t ht hw => hkr _ _ _ _ _ k4 hp hv t ht hw) hfl hrel hlocks
          · first | omega | exact absurd q (by decide)
        · first | omega | exact absurd q (by decide)
      case areturn =>
        cases h1
        rcases key with ⟨q, -⟩ | ⟨q, -⟩ | ⟨q, -⟩ | ⟨q, -⟩ | ⟨-, k2, x, rfl, k4⟩
        · first | omega | exact absurd q (by decide)
        · first | omega | exact absurd q (by decide)
        · first | omega | exact absurd q (by decide)
        · first | omega | exact absurd q (by decide)
        · rcases c8 with ⟨g, -⟩ | ⟨g, -⟩ | ⟨g, -⟩ | ⟨g, -⟩ | ⟨-, rt, g, g2⟩
          · first | omega | exact absurd q (by decide)
          · first | omega | exact absurd q (by decide)
          · first | omega | exact absurd q (by decide)
          · first | omega | exact absurd q (by decide)
          · exact W.aret hx hb (by rw [hret, g]) g2 (Or.inr ⟨_, rfl⟩) (fun t ht hw => hkr _ _ _ _ _ k4 hp hv t ht hw) hfl hrel hlocks
      case nop =>
        cases h1
        rcases key with ⟨q, -⟩ | ⟨q, -⟩ | ⟨q, -⟩ | ⟨q, -⟩ | ⟨q, -⟩
        all_goals exact absurd q (by decide)
      all_goals first | exact False.elim hrel | cases h1
end SY
