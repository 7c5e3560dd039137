/-! 21: the main induction for makers -/
section SYM
variable {D : va_G} {cy : Nat → ClassId} {r : sE} {hid : Nat → va_E} {rest : va_W}
set_option maxHeartbeats 8000000 in
theorem sy_w {MC : Nat → sMi} {PC : Nat → sMc} {FX : Nat} {l : Launch} (hG : sGoodC MC PC) (hM : sMkw) (hFC : sFldC) : ∀ n : Nat, sYok MC PC FX l D cy hid rest r n := by
  intro n
  induction n with
  | zero => intro k d N0 al0 A p e R s m args below meth c Qc free kr X hst0 hkr hfree al hag pc L st pa mem nc ns H locs ls h; exact nomatch (show false = true from h)
  | succ n ih =>
    intro k d N0 al0 A p e R s m args below meth c Qc free kr X hst0 hkr hfree al hag pc L st pa mem nc ns H locs ls h hnc hns hp hv hl
    have ihk := ih k d N0 al0 A p e R s m args below meth c Qc free kr X hst0 hkr hfree
    have hst := hst0.ag hag
    obtain ⟨hx, hb, hml, hown, hts, hNw, hK, hAO, hA, hfr, hlo, hRc, hRs, hret, hlocks, hname⟩ := X
    obtain ⟨⟨c1, c2, c3, c4, c5, c6, c7⟩, hR⟩ := hG k
    obtain ⟨ir, nx, aux, hg, h⟩ := sy_step h
    have hrel := hR pc
    rw [hg] at hrel
    have hFcA : ∀ q, va_A (sW r al cy hid rest mem) H.size q → A q := fun q hq => by
      rcases hq with ⟨j, en, hj⟩ | hq
      · exact hv.2.1.2 j _ hj
      · exact hA q (Nat.le_trans hv.2.2.1 hq)
    have hfl : ∀ q ∈ locs, free q.base := fun q hq => hfree _ (hv.2.2.2.2 q hq)
    have callX : ∀ {a : Nat} (idx : Nat), (decode (MC k).2.1 pc = .ok (.invokestatic idx, 3) ∧ (PG a).2.2.2.1 = 99) ∨ (decode (MC k).2.1 pc = .ok (.invokevirtual idx, 3) ∧ (PG a).2.2.2.1 ≠ 99) → nx = pc + 3 → sLinkM (MC k).1.cls idx (MI a).1 → sMkX FX d a (sy PC FX n d (PC k) N0 kr) nx L st pa mem nc ns = true → W p l e R s m args below meth c H locs nc ns (MQ below Qc args s (PC k).2.2.2.2.1 (PC k).2.2.2.2.2 free) (F0 m pc ls (st.map (sVal r al))) := by
      intro a idx g1 g2 g3 h2
      subst g2
      cases d with
      | zero => exact nomatch (show false = true from h2)
      | succ d1 =>
        obtain ⟨as, st1, rfl, hna, h3⟩ := sPop_ok _ _ _ _ (show sPop (PG a).2.2.1 st [] (fun as st => sIf (Nat.ble (sCats st) (nat_lit 8)) (sRecv mem (PG a).2.2.2.1 as (sEnt as (PG a).2.1 (fun L1 => sx PG FX d1 (PG a) (fun _ => false) (fun _ _ _ _ _ => false) (fun v pa mem => sPush v st (fun st => sy PC FX n (d1 + 1) (PC k) N0 kr (pc + 3) L st pa mem nc ns)) (nat_lit 0) L1 [] pa mem)))) = true from h2)
        rw [List.append_nil] at h3
        obtain ⟨h4, h5⟩ := sIf_ok h3
        obtain ⟨h6, h7⟩ := sRecv_ok h5
        obtain ⟨⟨b1, b2, b3, b4, b5, b6, b7, b8⟩, -⟩ := sGood_ok a
        have hMm := sMet_of (al := al) (D := D) (cy := cy) (hid := hid) (rest := rest) sGood_ok (sx_w (l := l) sGood_ok sFld_ok sCpw_ok FX) hp h6 H.size
        have hcat : ((st1.map (sVal r al)).map fun v => v.category).sum ≤ 8 := by
          rw [sCats_ok]
          exact Nat.le_of_ble_eq_true h4
        have hpre : ∀ U : State, U.heap = H → s.WarmedH U.vm → va_Pc (as.map (sVal r al)) (sPre D cy hid rest r al mem H.size) (as.map (sVal r al)).toArray U := fun U hU hw =>
          ⟨rfl, by rw [hU], by rw [hU]; exact hv.1, va_K.moved hw.alike hK, hv.2.1.weaken (fun _ _ _ _ => trivial), by
            rw [hU]
            exact ((hst.kept (fun a h1 h2 => hv.2.2.2.1 a h1 h2)).narrow hFcA).moved hw.alike, hNw.warm hw⟩
        have hroom : (sRm d1).frames + 1 ≤ R.frames ∧ 8 + ((MI a).2.2.1 + 11) + (sRm d1).locals ≤ R.locals := ⟨hfr, by show 8 + ((MI a).2.2.1 + 11) + 64 * (d1 + 1) ≤ R.locals; omega⟩
        have hgi := lw_goodIn b1
        have hcs : nc + 0 ≤ R.cells ∧ ns + 0 ≤ R.slots := ⟨by rw [hRc]; exact hnc, by rw [hRs]; exact hns⟩
        have cont : ∀ (v : Option sV) (pa1 : List sK) (mem1 : sM) (H1 : Heap) (locs1 : List Loc), sPush v st1 (fun st => sy PC FX n (d1 + 1) (PC k) N0 kr (pc + 3) L st pa1 mem1 nc ns) = true → sPa r pa1 → va_P D vwCl (sW r al cy hid rest mem1) H1 → va_D (va_A (sW r al cy hid rest mem) H.size) (sW r al cy hid rest mem1) → va_S A s.heap H1 locs1 → W p l e R s m args below meth c H1 locs1 nc ns (MQ below Qc args s (PC k).2.2.2.2.1 (PC k).2.2.2.2.2 free) (F0 m (pc + 3) ls ((v.map (sVal r al)).toList ++ st1.map (sVal r al))) := by
          intro v pa1 mem1 H1 locs1 q1 q2 q3 q4 q5
          have hv1 : sLv D cy A r al hid rest s.heap mem1 H1 locs1 := ⟨q3, q4.weaken (fun j y hy hz => hFcA _ hz), q5⟩
          cases v with
          | none => exact ihk al hag _ _ _ _ _ _ _ H1 locs1 ls q1 hnc hns q2 hv1 hl
          | some v => exact ihk al hag _ _ _ _ _ _ _ H1 locs1 ls (show sy PC FX n (d1 + 1) (PC k) N0 kr (pc + 3) L (v :: st1) pa1 mem1 nc ns = true from q1) hnc hns q2 hv1 hl
        have hstk : (as.reverse ++ st1).map (sVal r al) = (as.map (sVal r al)).reverse ++ st1.map (sVal r al) := by rw [List.map_append, List.map_reverse]
        rw [hstk]
        rcases g1 with ⟨g1, g4⟩ | ⟨g1, g4⟩
        · rcases b7 with ⟨-, w1, w2⟩ | ⟨w0, -⟩
          · have hn : (as.map (sVal r al)).length = (PG a).2.2.1 := by rw [List.length_map]; exact hna
            rcases g3 with g3 | ⟨host, g3⟩
            · exact s_call (va_runS ⟨hx, hb, hml, hown, hts⟩ hMm ⟨callB_of (PG a).2.2.1 hts hgi rfl rfl rfl (hts _ b2) (hts _ g3) ⟨b3.1, b3.2, w2⟩ hroom, hts _ w1⟩ ⟨sPre_blind, hpre⟩ rfl hn hl.1 rfl (lv_room hcat) g1 hcs) hv.2.2 (fun q _ h => hFcA q h) hFcA cont
            · exact s_call (va_runSN ⟨hx, hb, hml, hown, hts⟩ hMm ⟨va_cnB (PG a).2.2.1 hts hgi rfl rfl rfl (hNw _ g3) (hts _ b2) ⟨b3.1, b3.2, w2⟩ hroom, hts _ w1, trivial⟩ ⟨sPre_blind, hpre⟩ rfl hn hl.1 rfl (lv_room hcat) g1 hcs) hv.2.2 (fun q _ h => hFcA q h) hFcA cont
          · exact absurd g4 w0
        · rcases b7 with ⟨w0, -⟩ | ⟨-, w1, w2, ⟨T, N, w3⟩, nn, w4, w5⟩
          · exact absurd w0 g4
          · obtain ⟨q0, as1, vs, rfl, hq⟩ := h7 g4
            have he := sW_get (r := r) (al := al) (cy := cy) (hid := hid) (rest := rest) hq
            have hrecv := va_recv hK hv.1 w3 he
            have hn : (as1.map (sVal r al)).length = nn := by
              rw [List.length_map]
              rw [List.length_cons] at hna
              omega
            have hst2 : (F0 m pc ls (((.inr (.inr (some q0)) :: as1 : List sV).map (sVal r al)).reverse ++ st1.map (sVal r al))).stack = (as1.map (sVal r al)).reverse ++ .ref (al q0) :: st1.map (sVal r al) := by simp [sVal]
            rcases g3 with g3 | ⟨host, g3⟩
            · exact s_call (va_runV (C := (MI a).1.cls) (As := as1.map (sVal r al)) (b := al q0) ⟨hx, hb, hml, hown, hts⟩ hMm ⟨callB_of nn hts hgi rfl rfl rfl (hts _ b2) (hts _ g3) ⟨b3.1, b3.2, w4⟩ hroom, hts _ w1, hts _ w2⟩ ⟨sPre_blind, hrecv, hpre⟩ rfl hn hl.1 hst2 (lv_room hcat) g1 hcs) hv.2.2 (fun q _ h => hFcA q h) hFcA cont
            · exact s_call (va_runVN (C := (MI a).1.cls) (As := as1.map (sVal r al)) (b := al q0) ⟨hx, hb, hml, hown, hts⟩ hMm ⟨va_cnB nn hts hgi rfl rfl rfl (hNw _ g3) (hts _ b2) ⟨b3.1, b3.2, w4⟩ hroom, hts _ w1, hts _ w2⟩ ⟨sPre_blind, hrecv, hpre⟩ rfl hn hl.1 hst2 (lv_room hcat) g1 hcs) hv.2.2 (fun q _ h => hFcA q h) hFcA cont
    have callC : ∀ {a : Nat} (idx : Nat), (decode (MC k).2.1 pc = .ok (.invokespecial idx, 3) ∧ (MC a).1.name = "<init>") ∨ (decode (MC k).2.1 pc = .ok (.invokestatic idx, 3) ∧ (MC a).1.name ≠ "<init>") → nx = pc + 3 → sLinkM (MC k).1.cls idx (MC a).1 → sMkC PC (sy PC FX n) d N0 a (sy PC FX n d (PC k) N0 kr) (PC k) nx L st pa mem nc ns = true → W p l e R s m args below meth c H locs nc ns (MQ below Qc args s (PC k).2.2.2.2.1 (PC k).2.2.2.2.2 free) (F0 m pc ls (st.map (sVal r al))) := by
      intro a idx g1 g2 g3 h2
      subst g2
      cases d with
      | zero => exact nomatch (show false = true from h2)
      | succ d1 =>
        obtain ⟨as, st1, rfl, hna, h3⟩ := sPop_ok _ _ _ _ (show sPop (PC a).2.2.1 st [] (fun as st => sIf (Nat.ble (sCats st) (nat_lit 8)) (sIf (sBd2 (sLn mem) L st) (sIf (Bool.and (Nat.ble N0 (sLn mem)) (Nat.ble (sLn mem) (nat_lit 999000))) (sIf (Bool.and (Nat.ble (Nat.add nc (PC a).2.2.2.2.1) (PC k).2.2.2.2.1) (Nat.ble (Nat.add ns (PC a).2.2.2.2.2) (PC k).2.2.2.2.2)) (sB3 (Nat.beq (PC a).2.2.2.1 (nat_lit 0)) (sMkD (sy PC FX n) d1 (PC a) (sy PC FX n (d1 + 1) (PC k) N0 kr) (pc + 3) L st as pa mem nc ns) (sTR as (fun _ _ => sMkD (sy PC FX n) d1 (PC a) (sy PC FX n (d1 + 1) (PC k) N0 kr) (pc + 3) L st as pa mem nc ns))))))) = true from h2)
        rw [List.append_nil] at h3
        obtain ⟨h4, h5⟩ := sIf_ok h3
        obtain ⟨h6, h7⟩ := sIf_ok h5
        obtain ⟨h8, h9⟩ := sIf_ok h7
        obtain ⟨h10, h11⟩ := sIf_ok h9
        rw [sLn_ok] at h6 h8
        rw [Bool.and_eq_true] at h8 h10
        unfold sBd2 at h6
        rw [Bool.and_eq_true] at h6
        have j1 : N0 ≤ mem.length := Nat.le_of_ble_eq_true h8.1
        have j2 : mem.length ≤ 999000 := Nat.le_of_ble_eq_true h8.2
        have j3 : nc + (PC a).2.2.2.2.1 ≤ (PC k).2.2.2.2.1 := Nat.le_of_ble_eq_true h10.1
        have j4 : ns + (PC a).2.2.2.2.2 ≤ (PC k).2.2.2.2.2 := Nat.le_of_ble_eq_true h10.2
        obtain ⟨⟨b1, b2, b3, b4, b5, b6, b7⟩, -⟩ := hG a
        have hbody : sMkD (sy PC FX n) d1 (PC a) (sy PC FX n (d1 + 1) (PC k) N0 kr) (pc + 3) L st1 as pa mem nc ns = true ∧ ((PC a).2.2.2.1 = 0 → ∃ q0 as1, as = .inr (.inr (some q0)) :: as1) := by
          cases hq : Nat.beq (PC a).2.2.2.1 (nat_lit 0) with
          | true =>
            rw [hq] at h11
            obtain ⟨q0, as1, e1, e2⟩ := sTR_ok (show sTR as (fun _ _ => sMkD (sy PC FX n) d1 (PC a) (sy PC FX n (d1 + 1) (PC k) N0 kr) (pc + 3) L st1 as pa mem nc ns) = true from h11)
            exact ⟨e2, fun _ => ⟨q0, as1, e1⟩⟩
          | false =>
            rw [hq] at h11
            refine ⟨h11, fun e1 => ?_⟩
            rw [e1] at hq
            exact nomatch hq
        obtain ⟨h12, hrcv⟩ := hbody
        unfold sMkD at h12
        simp only [sFc_eq, sLn_ok] at h12
        have hMm := sMetC_of (al := al) hG ih hp h12 H.size
        have hcat : ((st1.map (sVal r al)).map fun v => v.category).sum ≤ 8 := by
          rw [sCats_ok]
          exact Nat.le_of_ble_eq_true h4
        have hpre : ∀ U : State, U.heap = H → s.WarmedH U.vm → va_Pc (as.map (sVal r al)) (sPreC D cy hid rest r al mem H.size) (as.map (sVal r al)).toArray U := fun U hU hw =>
          ⟨rfl, ⟨by rw [hU], by rw [hU]; exact hv.1, va_K.moved hw.alike hK, hv.2.1.weaken (fun _ _ _ _ => trivial), by
            rw [hU]
            exact ((hst.kept (fun a h1 h2 => hv.2.2.2.1 a h1 h2)).narrow hFcA).moved hw.alike, hNw.warm hw⟩, hAO.1.moved hw.alike, va_AOA.alike hw.alike hAO.2⟩
        have hroom : (sRmC d1 (PC a).2.2.2.2.1 (PC a).2.2.2.2.2).frames + 1 ≤ R.frames ∧ 8 + ((MC a).2.2.1 + 11) + (sRmC d1 (PC a).2.2.2.2.1 (PC a).2.2.2.2.2).locals ≤ R.locals := ⟨hfr, by show 8 + ((MC a).2.2.1 + 11) + 64 * (d1 + 1) ≤ R.locals; omega⟩
        have hgi := lw_goodIn b1
        have hcs : nc + (PC a).2.2.2.2.1 ≤ R.cells ∧ ns + (PC a).2.2.2.2.2 ≤ R.slots := ⟨by rw [hRc]; exact j3, by rw [hRs]; exact j4⟩
        have cont : ∀ (al2 : Nat → Nat) (v : Option sV) (pa1 : List sK) (mem1 : sM) (H1 : Heap) (locs1 : List Loc), sAg mem.length al al2 → sPush v st1 (fun st => sy PC FX n (d1 + 1) (PC k) N0 kr (pc + 3) L st pa1 mem1 (Nat.add nc (PC a).2.2.2.2.1) (Nat.add ns (PC a).2.2.2.2.2)) = true → sPa r pa1 → va_P D vwCl (sW r al2 cy hid rest mem1) H1 → va_D (va_A (sW r al cy hid rest mem) H.size) (sW r al2 cy hid rest mem1) → va_S A s.heap H1 locs1 → W p l e R s m args below meth c H1 locs1 (nc + (PC a).2.2.2.2.1) (ns + (PC a).2.2.2.2.2) (MQ below Qc args s (PC k).2.2.2.2.1 (PC k).2.2.2.2.2 free) (F0 m (pc + 3) ls ((v.map (sVal r al2)).toList ++ st1.map (sVal r al))) := by
          intro al2 v pa1 mem1 H1 locs1 ag q1 q2 q3 q4 q5
          have hv1 : sLv D cy A r al2 hid rest s.heap mem1 H1 locs1 := ⟨q3, q4.weaken (fun j y hy hz => hFcA _ hz), q5⟩
          have hl2 := sBd_lo ag h6.1 hl
          rw [← sBd_map (r := r) ag h6.2]
          cases v with
          | none => exact ihk al2 (hag.trans j1 ag) _ _ _ _ _ _ _ H1 locs1 ls q1 j3 j4 q2 hv1 hl2
          | some v => exact ihk al2 (hag.trans j1 ag) _ _ _ _ _ _ _ H1 locs1 ls (show sy PC FX n (d1 + 1) (PC k) N0 kr (pc + 3) L (v :: st1) pa1 mem1 _ _ = true from q1) j3 j4 q2 hv1 hl2
        have hstk : (as.reverse ++ st1).map (sVal r al) = (as.map (sVal r al)).reverse ++ st1.map (sVal r al) := by rw [List.map_append, List.map_reverse]
        rw [hstk]
        rcases g1 with ⟨g1, g4⟩ | ⟨g1, g4⟩
        · rcases b7 with ⟨w0, w1, ⟨nn, w2, w3⟩, w4, w5⟩ | ⟨w0, -⟩
          · obtain ⟨q0, as1, rfl⟩ := hrcv w4
            have hn : (as1.map (sVal r al)).length = nn := by
              rw [List.length_map]
              rw [List.length_cons] at hna
              omega
            have hst2 : (F0 m pc ls (((.inr (.inr (some q0)) :: as1 : List sV).map (sVal r al)).reverse ++ st1.map (sVal r al))).stack = (as1.map (sVal r al)).reverse ++ .ref (al q0) :: st1.map (sVal r al) := by simp [sVal]
            rw [w5] at hMm hgi b1
            rcases g3 with g3 | ⟨host, g3⟩
            · exact s_callC (va_runI (As := as1.map (sVal r al)) (b := al q0) ⟨hx, hb, hml, hown, hts⟩ hMm ⟨callB_of nn hts hgi rfl rfl rfl (hts _ b2) (hts _ g3) ⟨b3.1, b3.2, w2⟩ hroom, w0, hts _ w1⟩ ⟨sPreC_blind, hpre⟩ rfl hn hl.1 hst2 (lv_room hcat) g1 hcs) hv.2.2 (fun q _ h => hFcA q h) hFcA cont
            · exact s_callC (va_runIN (As := as1.map (sVal r al)) (b := al q0) ⟨hx, hb, hml, hown, hts⟩ hMm ⟨va_cnB nn hts hgi rfl rfl rfl (hNw _ g3) (hts _ b2) ⟨b3.1, b3.2, w2⟩ hroom, w0, hts _ w1⟩ ⟨sPreC_blind, hpre⟩ rfl hn hl.1 hst2 (lv_room hcat) g1 hcs) hv.2.2 (fun q _ h => hFcA q h) hFcA cont
          · exact absurd g4 w0
        · rcases b7 with ⟨w0, -⟩ | ⟨-, w1, w2, -⟩
          · exact absurd w0 g4
          · have hn : (as.map (sVal r al)).length = (PC a).2.2.1 := by rw [List.length_map]; exact hna
            rcases g3 with g3 | ⟨host, g3⟩
            · exact s_callC (va_runS ⟨hx, hb, hml, hown, hts⟩ hMm ⟨callB_of (PC a).2.2.1 hts hgi rfl rfl rfl (hts _ b2) (hts _ g3) ⟨b3.1, b3.2, w2⟩ hroom, hts _ w1⟩ ⟨sPreC_blind, hpre⟩ rfl hn hl.1 rfl (lv_room hcat) g1 hcs) hv.2.2 (fun q _ h => hFcA q h) hFcA cont
            · exact s_callC (va_runSN ⟨hx, hb, hml, hown, hts⟩ hMm ⟨va_cnB (PC a).2.2.1 hts hgi rfl rfl rfl (hNw _ g3) (hts _ b2) ⟨b3.1, b3.2, w2⟩ hroom, hts _ w1, trivial⟩ ⟨sPreC_blind, hpre⟩ rfl hn hl.1 rfl (lv_room hcat) g1 hcs) hv.2.2 (fun q _ h => hFcA q h) hFcA cont
    rcases h with ⟨f, h1, h2⟩ | ⟨t, a, h1, h2⟩
    · have key : ∀ f2, sOp ir = .inl f2 → sRel MI PG (MC k).1.cls (MC k).2.1 (pc, ir, nx, aux) → f2 = f → W p l e R s m args below meth c H locs nc ns (MQ below Qc args s (PC k).2.2.2.2.1 (PC k).2.2.2.2.2 free) (F0 m pc ls (st.map (sVal r al))) := by
        intro f2 g1 g2 g3
        subst g3
        refine so_all sFld_ok sCpw_ok hx hb hml hown hts hNw hK hst (by omega) (by omega) ⟨by rw [hRc]; exact hnc, by rw [hRs]; exact hns⟩ g2 g1 (fun pc L st pa mem => sy PC FX n d (PC k) N0 kr pc L st pa mem nc ns) ?_ L st pa mem H locs ls h2 hp hv hl
        intro pc2 L2 st2 pa2 mem2 H2 locs2 ls2 q1 q2 q3 q4
        exact ihk al hag pc2 L2 st2 pa2 mem2 nc ns H2 locs2 ls2 q1 hnc hns q2 q3 q4
      cases ir
      all_goals first
        | (cases h1; done)
        | (exact False.elim hrel)
        | skip
      all_goals first
        | (refine key _ rfl hrel ?_; exact Sum.inl.inj h1)
        | skip
      case newarray at_ => cases at_ <;> cases h1
    · cases ir
      case new ci =>
        cases h1
        obtain ⟨idx, C, T, N, g1, g2, g3, g4, g5, g6, g7⟩ := hrel
        subst g2
        obtain ⟨w0, w1, w2, w3, w4, w5, w6, w7⟩ := sMkN_ok (show sMkN N0 [(0, a, sNewF a)] 1 (sNn a) (sy PC FX n d (PC k) N0 kr) (PC k) (pc + 3) L st pa mem nc ns = true from h2)
        obtain ⟨f1, f2⟩ := hFC _ _ _ _ g4
        subst f1
        refine so_new hx hb hts hK hA hown g3 g4 rfl f2 (sFld_ok _ _ _ _ g4).1 g5 g6 g7 (by rw [hRc]; exact w5) (by rw [hRs]; exact w6) g1 w4 (by omega) hv (fun q H1 hv1 => ?_)
        have ag : sAg mem.length al (sUp al mem.length q) := sUp_ag (by omega)
        have kk := ihk (sUp al mem.length q) (hag.trans w0 ag) _ _ _ _ _ _ _ H1 locs ls w7 w5 w6 hp hv1 (sBd_lo ag w2 hl)
        rw [List.map_cons, sBd_map ag w3] at kk
        have e1 : sVal r (sUp al mem.length q) (.inr (.inr (some mem.length))) = .ref q := by
          show Value.ref (sUp al mem.length q mem.length) = _
          rw [show sUp al mem.length q mem.length = q from if_pos rfl]
        rw [e1] at kk
        exact kk
      case newarray at_ =>
        have keyI : ∀ (kd : Nat) (ty : FieldType), ((kd = 1 ∧ ty = .int) ∨ (kd = 2 ∧ ty = .byte) ∨ (kd = 3 ∧ ty = .boolean)) → newarray.typeOf at_ = ty → Cond.arrayClass ty ∈ sTb → sMkA N0 kd (.inl (.natCast 0)) (sy PC FX n d (PC k) N0 kr) (PC k) nx L st pa mem nc ns = true → decode (MC k).2.1 pc = .ok (.newarray at_, 2) → nx = pc + 2 → W p l e R s m args below meth c H locs nc ns (MQ below Qc args s (PC k).2.2.2.2.1 (PC k).2.2.2.2.2 free) (F0 m pc ls (st.map (sVal r al))) := by
          intro kd ty z1 z2 z3 z4 z5 z6
          subst z6
          obtain ⟨x, st1, rfl, z7⟩ := sTI_ok z4
          obtain ⟨nn, rfl, z8⟩ := sNum_ok z7
          obtain ⟨z9, z10⟩ := sIf_ok z8
          obtain ⟨w0, w1, w2, w3, w4, w5, w6, w7⟩ := sMkN_ok z10
          rw [List.map_cons]
          simp only [sVal, sI, sD_c]
          refine so_newI z1 z2 hx hb hts z3 hK hA (Nat.le_of_ble_eq_true z9) (by rw [hRc]; exact w5) (by rw [hRs]; exact w6) z5 w4 (by omega) hv (fun q H1 hv1 => ?_)
          have ag : sAg mem.length al (sUp al mem.length q) := sUp_ag (by omega)
          have kk := ihk (sUp al mem.length q) (hag.trans w0 ag) _ _ _ _ _ _ _ H1 locs ls w7 w5 w6 hp hv1 (sBd_lo ag w2 hl)
          rw [List.map_cons, sBd_map ag w3] at kk
          have e1 : sVal r (sUp al mem.length q) (.inr (.inr (some mem.length))) = .ref q := by
            show Value.ref (sUp al mem.length q mem.length) = _
            rw [show sUp al mem.length q mem.length = q from if_pos rfl]
          rw [e1] at kk
          exact kk
        cases at_
        case int => cases h1; exact keyI 1 .int (Or.inl ⟨rfl, rfl⟩) rfl hM.2.2.1 h2 hrel.1 hrel.2
        case byte => cases h1; exact keyI 2 .byte (Or.inr (Or.inl ⟨rfl, rfl⟩)) rfl hM.2.2.2.1 h2 hrel.1 hrel.2
        case boolean => cases h1; exact keyI 3 .boolean (Or.inr (Or.inr ⟨rfl, rfl⟩)) rfl hM.2.2.2.2.1 h2 hrel.1 hrel.2
        case long =>
          cases h1
          obtain ⟨g1, g2⟩ := hrel
          subst g2
          obtain ⟨x, st1, rfl, z7⟩ := sTI_ok (show sMkA N0 4 (.inr (.inl (.natCast 0))) (sy PC FX n d (PC k) N0 kr) (PC k) (pc + 2) L st pa mem nc ns = true from h2)
          obtain ⟨nn, rfl, z8⟩ := sNum_ok z7
          obtain ⟨z9, z10⟩ := sIf_ok z8
          obtain ⟨w0, w1, w2, w3, w4, w5, w6, w7⟩ := sMkN_ok z10
          rw [List.map_cons]
          simp only [sVal, sI, sD_c]
          refine so_newJ hx hb hts hM.2.2.2.2.2 hK hA (Nat.le_of_ble_eq_true z9) (by rw [hRc]; exact w5) (by rw [hRs]; exact w6) g1 w4 (by omega) hv (fun q H1 hv1 => ?_)
          have ag : sAg mem.length al (sUp al mem.length q) := sUp_ag (by omega)
          have kk := ihk (sUp al mem.length q) (hag.trans w0 ag) _ _ _ _ _ _ _ H1 locs ls w7 w5 w6 hp hv1 (sBd_lo ag w2 hl)
          rw [List.map_cons, sBd_map ag w3] at kk
          have e1 : sVal r (sUp al mem.length q) (.inr (.inr (some mem.length))) = .ref q := by
            show Value.ref (sUp al mem.length q mem.length) = _
            rw [show sUp al mem.length q mem.length = q from if_pos rfl]
          rw [e1] at kk
          exact kk
        all_goals (cases h1; exact nomatch (show false = true from h2))
      case anewarray j =>
        cases h1
        obtain ⟨idx, g1, g2, g3⟩ := hrel
        subst g2
        obtain ⟨x, st1, rfl, z7⟩ := sTI_ok (show sMkA N0 5 (.inr (.inr none)) (sy PC FX n d (PC k) N0 kr) (PC k) (pc + 3) L st pa mem nc ns = true from h2)
        obtain ⟨nn, rfl, z8⟩ := sNum_ok z7
        obtain ⟨z9, z10⟩ := sIf_ok z8
        obtain ⟨w0, w1, w2, w3, w4, w5, w6, w7⟩ := sMkN_ok z10
        rw [List.map_cons]
        simp only [sVal, sI, sD_c]
        refine so_newQ hx hb hts hown g3 hAO.1 hK hA (Nat.le_of_ble_eq_true z9) (by rw [hRc]; exact w5) (by rw [hRs]; exact w6) g1 w4 (by omega) hv (fun q H1 hv1 => ?_)
        have ag : sAg mem.length al (sUp al mem.length q) := sUp_ag (by omega)
        have kk := ihk (sUp al mem.length q) (hag.trans w0 ag) _ _ _ _ _ _ _ H1 locs ls w7 w5 w6 hp hv1 (sBd_lo ag w2 hl)
        rw [List.map_cons, sBd_map ag w3] at kk
        have e1 : sVal r (sUp al mem.length q) (.inr (.inr (some mem.length))) = .ref q := by
          show Value.ref (sUp al mem.length q mem.length) = _
          rw [show sUp al mem.length q mem.length = q from if_pos rfl]
        rw [e1] at kk
        exact kk
      case multianewarray j1 j2 =>
        cases h1
        obtain ⟨idx, g1, g2, g3⟩ := hrel
        subst g2
        obtain ⟨x, st1, rfl, z1⟩ := sTI_ok (show sMkG N0 (sy PC FX n d (PC k) N0 kr) (PC k) (pc + 4) L st pa mem nc ns = true from h2)
        obtain ⟨y, st2, rfl, z2⟩ := sTI_ok z1
        obtain ⟨a1, rfl, z3⟩ := sNum_ok z2
        obtain ⟨b1, rfl, z4⟩ := sNum_ok z3
        obtain ⟨z5, z6⟩ := sIf_ok z4
        rw [Bool.and_eq_true] at z5
        have e5 : a1 = 6 := Nat.eq_of_beq_eq_true z5.1
        have e6 : b1 = 6 := Nat.eq_of_beq_eq_true z5.2
        subst e5 e6
        rw [sFc_eq, sLn_ok] at z6
        obtain ⟨w0, w1, w2, w3, w4, w5, w6, w7⟩ := sMkN_ok z6
        rw [List.map_cons, List.map_cons]
        simp only [sVal, sI, sD_c]
        refine so_grid hx hb hts hown g3 hAO.2 hM.2.2.1 hK hA (by rw [hRc]; exact w5) (by rw [hRs]; exact w6) g1 w4 (by omega) hv (fun q ρ H1 hv1 => ?_)
        have ag : sAg mem.length al (sUp7 al mem.length q ρ) := sUp7_ag (by omega)
        have kk := ihk (sUp7 al mem.length q ρ) (hag.trans w0 ag) _ _ _ _ _ _ _ H1 locs ls w7 w5 w6 hp hv1 (sBd_lo ag w2 hl)
        rw [List.map_cons, sBd_map ag w3] at kk
        have e1 : sVal r (sUp7 al mem.length q ρ) (.inr (.inr (some mem.length))) = .ref q := by
          show Value.ref (sUp7 al mem.length q ρ mem.length) = _
          rw [show sUp7 al mem.length q ρ mem.length = q from if_pos rfl]
        rw [e1] at kk
        exact kk
      case aastore =>
        cases h1
        obtain ⟨g1, g2⟩ := hrel
        subst g2
        obtain ⟨v, st1, rfl, z1⟩ := sTR_ok (show sMkS (sy PC FX n d (PC k) N0 kr) (pc + 1) L st pa mem nc ns = true from h2)
        obtain ⟨i, q, st2, rfl, hi, z2⟩ := sIx_ok z1
        obtain ⟨cv, vs0, z3, z4⟩ := sCell_ok z2
        obtain ⟨z5, z6⟩ := sIf_ok z4
        have e5 : cv = 5 := Nat.eq_of_beq_eq_true z5
        subst e5
        obtain ⟨u, vs, z7, z8, z9⟩ := sPuta_ok z6
        have he := sW_get (r := r) (al := al) (cy := cy) (hid := hid) (rest := rest) z7
        have he0 := sW_get (r := r) (al := al) (cy := cy) (hid := hid) (rest := rest) z3
        have hl1 : q < mem.length := (List.getElem?_eq_some_iff.mp z7).1
        have hcl : (Int32.ofNat i).toNatClampNeg = i := nI_clamp hi
        have ef : va_up (fun j : Nat => sRef al vs[j]?) i (some (al v)) = fun j : Nat => sRef al (vs.set i (.inr (.inr (some v))))[j]? := by
          funext j
          unfold va_up
          rw [List.getElem?_set]
          by_cases e0 : j = i
          · subst e0
            simp [z8, sRef]
          · simp [e0, Ne.symm e0]
        rw [List.map_cons, List.map_cons, List.map_cons]
        simp only [sVal, sI, sD_c]
        refine va_astq (r := (RX7, TX7, 3)) hx hb hK hv.1 hv.2.1 hv.2.2 q 4 v 5 he rfl he0 rfl (s_in z8 hi) g1 (fun H1 locs1 a1 a2 a3 => ihk al hag _ _ _ _ _ _ _ H1 locs1 ls z9 hnc hns hp ⟨?_, ?_, a3⟩ hl)
        · rw [hcl, ef] at a1
          rw [← sW_set hl1]
          simpa [sCe] using a1
        · rw [hcl, ef] at a2
          rw [← sW_set hl1]
          simpa [sCe] using a2
      case checkcast nn =>
        cases h1
        obtain ⟨idx, C, T, N, ty, g1, g2, g3, g4, g5, g6, g7, g8, g9, g10⟩ := hrel
        subst g2
        obtain ⟨v, st1, rfl, z1⟩ := sTR_ok (show sMkP a (sy PC FX n d (PC k) N0 kr) (pc + 3) L st pa mem nc ns = true from h2)
        obtain ⟨q, st2, rfl, z2⟩ := sTR_ok z1
        obtain ⟨vs, z3, z4, z5⟩ := sPutf_ok z2
        have he := sW_get (r := r) (al := al) (cy := cy) (hid := hid) (rest := rest) z3
        obtain ⟨ty0, hT1, hT2⟩ := (sFld_ok _ _ _ _ g3).2
        have hl1 : q < mem.length := (List.getElem?_eq_some_iff.mp z3).1
        have es : (sW r al cy hid rest mem).set q (al q, .inr (a / 64, (vs.map (sVal r al)).set (a % 64) (sVal r al (.inr (.inr (some v)))))) = sW r al cy hid rest (mem.set q (0, a / 64, vs.set (a % 64) (.inr (.inr (some v))))) := by
          rw [← sW_set hl1, ← List.map_set]
          rfl
        have hlen : a % 64 < (vs.map (sVal r al)).length := by rw [List.length_map]; exact z4
        have hnm : meth.name = "<init>" := hname.trans g10
        rw [List.map_cons, List.map_cons]
        refine va_putF hx hb hts (sFld_ok _ _ _ _ g3).1 ty0 hT1 hT2 hown hK hv.1 hv.2.1 hv.2.2 q he g3 (a % 64) g4 (hts _ g5) (fun _ h => h) g6 hnm g7 g8 (by rcases g9 with ⟨n1, rfl⟩ | ⟨t1, rfl⟩ <;> rfl) (by rcases g9 with ⟨n1, rfl⟩ | ⟨t1, rfl⟩ <;> rfl) hlen g1 (fun H1 locs1 a1 a2 a3 => ?_)
        rw [es] at a1 a2
        exact ihk al hag _ _ _ _ _ _ _ H1 locs1 ls z5 hnc hns hp ⟨a1, a2, a3⟩ hl
      case pop =>
        cases h1
        obtain ⟨idx, g1, g2, g3⟩ := hrel
        subst g2
        obtain ⟨v, st1, rfl, z1⟩ := sTR_ok (show sTR st (fun _ st => sIf (Nat.ble (sCats st) (nat_lit 8)) (sy PC FX n d (PC k) N0 kr (pc + 3) L st pa mem nc ns)) = true from h2)
        obtain ⟨z2, z3⟩ := sIf_ok z1
        have hsum := sCats_ok (r := r) (al := al) st1
        have hle : sCats st1 ≤ 8 := Nat.le_of_ble_eq_true z2
        rw [List.map_cons]
        exact W.objInit hx hb hown (hts _ g3) (hts _ hM.1) (hts _ hM.2.1) rfl (hl.1.trans hml.symm) rfl g1 (by omega) (by show 2 * 0 + _ + 12 ≤ R.locals; omega) (ihk al hag _ _ _ _ _ _ _ H locs ls z3 hnc hns hp hv hl)
      case invokespecial kk =>
        cases h1
        obtain ⟨idx, g1, g2, g3, g4⟩ := hrel
        exact callC idx (Or.inl ⟨g1, g4⟩) g2 g3 (show sMkC PC (sy PC FX n) d N0 a (sy PC FX n d (PC k) N0 kr) (PC k) nx L st pa mem nc ns = true from h2)
      case invokestatic kk =>
        cases h1
        obtain ⟨idx, g1, g2, g3⟩ := hrel
        rcases g3 with ⟨g3, g4, g5⟩ | ⟨g3, g4, g5⟩
        · subst g3
          exact callC idx (Or.inr ⟨g1, g5⟩) g2 g4 h2
        · have hb9 : Nat.beq a (nat_lit 67) = false := by
            cases hq : Nat.beq a (nat_lit 67) with
            | true => exact absurd (Nat.eq_of_beq_eq_true hq) g3
            | false => rfl
          have h3 : sB3 (Nat.beq a (nat_lit 67)) (sMkX FX d a (sy PC FX n d (PC k) N0 kr) nx L st pa mem nc ns) (sMkC PC (sy PC FX n) d N0 a (sy PC FX n d (PC k) N0 kr) (PC k) nx L st pa mem nc ns) = true := h2
          rw [hb9] at h3
          exact callX idx (Or.inl ⟨g1, g5⟩) g2 g4 h3
      case invokevirtual kk =>
        cases h1
        obtain ⟨idx, g1, g2, g3, g4, g5⟩ := hrel
        have hb9 : Nat.beq a (nat_lit 67) = false := by
          cases hq : Nat.beq a (nat_lit 67) with
          | true => exact absurd (Nat.eq_of_beq_eq_true hq) g3
          | false => rfl
        have h3 : sB3 (Nat.beq a (nat_lit 67)) (sMkX FX d a (sy PC FX n d (PC k) N0 kr) nx L st pa mem nc ns) (sMkC PC (sy PC FX n) d N0 a (sy PC FX n d (PC k) N0 kr) (PC k) nx L st pa mem nc ns) = true := h2
        rw [hb9] at h3
        exact callX idx (Or.inr ⟨g1, g5⟩) g2 g4 h3
      case return_ =>
        cases h1
        obtain ⟨z1, z2⟩ := sIf_ok (show sIf (Nat.beq (PC k).2.2.2.1 (nat_lit 0)) (sNil st (kr none pa mem)) = true from h2)
        obtain ⟨rfl, z3⟩ := sNil_ok z2
        have e1 : (PC k).2.2.2.1 = 0 := Nat.eq_of_beq_eq_true z1
        rcases c7 with ⟨-, -, -, -, g⟩ | ⟨-, -, -, g, -⟩
        · refine W.widen hnc hns ?_
          exact W.vret hx hb (by rw [hret, g]) (fun t ht hw => hkr al none pa mem H locs hag z3 hp hv t ht hw) hfl hrel hlocks
        · omega
      case areturn =>
        cases h1
        obtain ⟨z1, z2⟩ := sIf_ok (show sIf (Nat.beq (PC k).2.2.2.1 (nat_lit 4)) (sTR st (fun x st => sNil st (kr (some (.inr (.inr (some x)))) pa mem))) = true from h2)
        obtain ⟨x, st1, rfl, z3⟩ := sTR_ok z2
        obtain ⟨rfl, z4⟩ := sNil_ok z3
        have e1 : (PC k).2.2.2.1 = 4 := Nat.eq_of_beq_eq_true z1
        rcases c7 with ⟨-, -, -, g, -⟩ | ⟨-, -, -, -, rt, g, g2⟩
        · omega
        · refine W.widen hnc hns ?_
          exact W.aret hx hb (by rw [hret, g]) g2 (Or.inr ⟨_, rfl⟩) (fun t ht hw => hkr al _ pa mem H locs hag z4 hp hv t ht hw) hfl hrel hlocks
      all_goals first
        | (cases h1; done)
        | (exact False.elim hrel)
        | (cases h1; exact nomatch (show false = true from h2))
end SYM
