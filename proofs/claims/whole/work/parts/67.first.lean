/-! 67: the law: its start -/
section LS
variable {p : Program} {l : Launch} {e : Env} {s : State} {m : MethodId} {below : List Frame} {meth : Method} {c : Code} {b : Nat} {Q : State → Prop} {D : va_G} {cy : Nat → ClassId} {al : Nat → Nat} {hid : Nat → va_E} {rest : va_W} {r : sE}
set_option maxHeartbeats 1000000 in
theorem law_callC {cells slots : Nat} (hx : p.tables.exec = Jvm.exec) (hb : c.code = code) (hml : c.maxLocals = 4) (hown : s.vm.findClass R_law = some m.cls) (hts0 : ∀ w ∈ lw_tbl, w.before #[Value.ref b] s = true) (hK : va_K D vwCl (sT cy) s) (hst : sSt al (fun q => s.heap.size ≤ q) s s.heap)
    {pc idx a : Nat} {ls : Array Slot} {H : Heap} {locs : List Loc} {mem : sM} {SV : List Value} {kr : sKr} (hdec : decode code pc = .ok (.invokespecial idx, 3)) (hlink : Cond.methodLink R_law idx (MC a).1 ∈ lw_tbl) (hM0 : sMetC MC PC l D cy hid rest r al 20 a mem [.inr (.inr (some 0))] kr) (hini : (MC a).1.name = "<init>") (hna : (PC a).2.2.1 = 1) (hcat : (SV.map fun v => v.category).sum ≤ 8)
    (hP : va_P D vwCl (sW r al cy hid rest mem) H) (hD : va_D (fun q => s.heap.size ≤ q) (sW r al cy hid rest mem)) (hS : va_S (fun q => s.heap.size ≤ q) s.heap H locs) (hls : ls.size = 4) (hcs : cells + (PC a).2.2.2.2.1 ≤ 600000 ∧ slots + (PC a).2.2.2.2.2 ≤ 7302250)
    (kk : ∀ (al2 : Nat → Nat) (v : Option sV) (pa : List sK) (mem1 : sM) (H1 : Heap) (locs1 : List Loc), sAg mem.length al al2 → kr v pa mem1 = true → va_P D vwCl (sW r al2 cy hid rest mem1) H1 → va_D (fun q => s.heap.size ≤ q) (sW r al2 cy hid rest mem1) → va_S (fun q => s.heap.size ≤ q) s.heap H1 locs1 → W p l e room_1 s m #[Value.ref b] below meth c H1 locs1 (cells + (PC a).2.2.2.2.1) (slots + (PC a).2.2.2.2.2) Q (F0 m (pc + 3) ls ((v.map (sVal r al2)).toList ++ SV))) :
    W p l e room_1 s m #[Value.ref b] below meth c H locs cells slots Q (F0 m pc ls (.ref (al 0) :: SV)) := by
  have hts : ∀ w ∈ sTb, w.before #[Value.ref b] s = true := fun w h => hts0 w (sTb_in h)
  have hNw := law_Nw hts0
  have hAO := law_AO hts0
  have hA : ∀ q : Nat, s.heap.size ≤ q → (fun q : Nat => s.heap.size ≤ q) q := fun _ h => h
  obtain ⟨⟨b1, b2, b3, b4, b5, b6, b7⟩, -⟩ := sGoodC_ok a
  have hMm := hM0 H.size
  have hFc : ∀ q, va_A (sW r al cy hid rest mem) H.size q → (fun q : Nat => s.heap.size ≤ q) q := fun q hq => by
    rcases hq with ⟨j, en, hj⟩ | hq
    · exact hD.2 j _ hj
    · exact hA q (Nat.le_trans hS.1 hq)
  have hpre : ∀ U : State, U.heap = H → s.WarmedH U.vm → va_Pc ([.ref (al 0)] : List Value) (sPreC D cy hid rest r al mem H.size) ([.ref (al 0)] : List Value).toArray U := fun U hU hw =>
    ⟨rfl, ⟨by rw [hU], by rw [hU]; exact hP, va_K.moved hw.alike hK, hD.weaken (fun _ _ _ _ => trivial), by
      rw [hU]
      exact ((hst.kept (fun a h1 h2 => hS.2.1 a h1 h2)).narrow hFc).moved hw.alike, hNw.warm hw⟩, hAO.1.moved hw.alike, va_AOA.alike hw.alike hAO.2⟩
  have hroom : (sRmC 20 (PC a).2.2.2.2.1 (PC a).2.2.2.2.2).frames + 1 ≤ room_1.frames ∧ 8 + ((MC a).2.2.1 + 11) + (sRmC 20 (PC a).2.2.2.2.1 (PC a).2.2.2.2.2).locals ≤ room_1.locals := ⟨by show 21 + 1 ≤ 2048; omega, by show 8 + ((MC a).2.2.1 + 11) + 64 * 21 ≤ 84000; omega⟩
  have hgi := lw_goodIn b1
  rcases b7 with ⟨w0, w1, ⟨nn, w2, w3⟩, w4, w5⟩ | ⟨w0, -⟩
  · have hn : ([] : List Value).length = nn := by
      show 0 = nn
      omega
    rw [w5] at hMm hgi b1
    exact s_callC (va_runI (As := []) (b := al 0) ⟨hx, hb, hml, hown, hts⟩ hMm ⟨callB_of nn hts hgi rfl rfl rfl (hts _ b2) (hts0 _ hlink) ⟨b3.1, b3.2, w2⟩ hroom, w0, hts _ w1⟩ ⟨sPreC_blind, hpre⟩ rfl hn hls rfl (lv_room hcat) hdec hcs) hS (fun q _ h => hFc q h) hFc (fun al2 v pa mem1 H1 locs1 k0 k1 k2 k3 k4 k5 => kk al2 v pa mem1 H1 locs1 k0 k1 k3 (k4.weaken (fun j y hy hz => hFc _ hz)) k5)
  · exact absurd hini w0
end LS
theorem dl_0 : decode code 0 = .ok (.new 7, 3) := by decide +kernel
theorem dl_3 : decode code 3 = .ok (.dup, 1) := by decide +kernel
theorem dl_4 : decode code 4 = .ok (.invokespecial 9, 3) := by decide +kernel
theorem dl_7 : decode code 7 = .ok (.astore_n 1, 1) := by decide +kernel
theorem dl_8 : decode code 8 = .ok (.new 10, 3) := by decide +kernel
theorem dl_11 : decode code 11 = .ok (.dup, 1) := by decide +kernel
theorem dl_12 : decode code 12 = .ok (.invokespecial 12, 3) := by decide +kernel
theorem dl_15 : decode code 15 = .ok (.astore_n 2, 1) := by decide +kernel
theorem dl_16 : decode code 16 = .ok (.iconst 0, 1) := by decide +kernel
theorem dl_17 : decode code 17 = .ok (.istore_n 3, 1) := by decide +kernel
theorem made_X : (PC 87).2.2.2.2.1 ≤ 1000 ∧ (PC 87).2.2.2.2.2 ≤ 10000 := by decide +kernel
theorem made_M : (PC 139).2.2.2.2.1 ≤ 1000 ∧ (PC 139).2.2.2.2.2 ≤ 10000 := by decide +kernel
def alS (q t0 t1 i : Nat) : Nat := if i = 0 then q else if i = 1000000 then t0 else t1
set_option maxHeartbeats 1000000 in
/-- the law's body up to the model's making -/
theorem law_start1 {p : Program} {e : Env} {s : State} {m : MethodId} {below : List Frame} {meth : Method} {c : Code} (l : Launch) {b L : Nat} {xs : Nat → Int32} (kk : ∀ (D : va_G) (cy : Nat → ClassId) (qX t0 t1 : Nat) (alX : Nat → Nat) (H : Heap) (locs : List Loc) (ls : Array Slot) (cells slots : Nat), alX 0 = qX → sSt alX (fun q => s.heap.size ≤ q) s s.heap → va_K D vwCl (sT cy) s → (∀ al : Nat → Nat, al 1000000 = t0 → al 1000001 = t1 → sSt al (fun q => s.heap.size ≤ q) s s.heap) → cells ≤ 2000 → slots ≤ 20000 → va_P D vwCl (sW ((fun _ => 0), (fun _ => 0)) alX cy hid0 [] tX0) H → va_D (fun q => s.heap.size ≤ q) (sW ((fun _ => 0), (fun _ => 0)) alX cy hid0 [] tX0) → va_S (fun q => s.heap.size ≤ q) s.heap H locs → lv_has ls 4 [(1, .ref qX), (0, .ref b)] → W p l e room_1 s m #[Value.ref b] below meth c H locs cells slots (lw_Z below #[Value.ref b] s) (F0 m 8 ls [])) (C0 : lw_At p s m meth c b L xs) : W p l e room_1 s m #[Value.ref b] below meth c s.heap [] 0 0 (lw_Z below #[Value.ref b] s) (entryFrame m ([Value.ref b] : List Value).toArray 4) := by
  obtain ⟨hx, hb, hr, hml, hown, hts, hX, hbl, hlocks, hgv⟩ := id C0
  have hA : ∀ q : Nat, s.heap.size ≤ q → (fun q : Nat => s.heap.size ≤ q) q := fun _ h => h
  obtain ⟨D, cy, hK⟩ := law_K hts
  obtain ⟨t0, t1, hSt⟩ := law_St hts hgv
  have hS : va_S (fun q : Nat => s.heap.size ≤ q) s.heap s.heap [] := va_S.rf
  have hP : va_P D vwCl [] s.heap := fun k q h => by simp at h
  have hD : va_D (fun q : Nat => s.heap.size ≤ q) [] := ⟨fun i j p q h => by simp at h, fun k q h => by simp at h⟩
  have hl := lv_entry ([.ref b]) (n := 4) (Nat.le_of_ble_eq_true rfl)
  rw [lg_entry_eq]
  generalize (lg_sl ([.ref b]) ++ List.replicate (4 - (lg_sl ([.ref b])).length) Slot.unset).toArray = ls at hl ⊢
  have hl : lv_has ls 4 [(0, .ref b)] := hl
  have hty : ∀ ci C T N, vwCl[ci]? = some (C, T, N) → ∀ k, k < N → parseFieldDescriptor (T k).2.2.1 = some (sTy ci k) := fun ci C T N h => (sFldC_ok ci C T N h).2
  refine va_new (ci := 10) (fs := (sNewF 10).map (sVal ((fun _ => 0), (fun _ => 0)) (fun _ => 0))) (C := RX12) (T := TX12) (N := 11) hx hb hts (fun w h => sTb_in ((sFld_ok 10 _ _ _ rfl).1 w h)) (sTy 10) (hty 10 _ _ _ rfl) hown (hts (.classLink R_law 7 "SwapTables") (List.mem_of_getElem? (i := 91) (by decide +kernel))) (hts (.instantiable "SwapTables" 11) (List.mem_of_getElem? (i := 92) (by decide +kernel))) (hts (.initialized "SwapTables") (List.mem_of_getElem? (i := 74) (by decide +kernel))) hK hP hD hS hA rfl (sNewF_ok (ci := 10) (by decide)) (by decide +kernel) (by decide +kernel) dl_0 (fun qX H hP hD hS => ?_)
  refine lv_dup hx hb dl_3 rfl ?_
  have hstX := hSt (alS qX t0 t1) rfl rfl
  refine law_callC (al := alS qX t0 t1) (r := ((fun _ => 0), (fun _ => 0))) (hid := hid0) (rest := []) (a := 87) (SV := [.ref qX]) hx hb hml hown hts hK hstX dl_4 (List.mem_of_getElem? (i := 93) (by decide +kernel)) (sRunC_met l sPa_nil run_X) rfl rfl (by show 1 + 0 ≤ 8; omega) hP hD hS hl.1 (by have := made_X; constructor <;> omega) (fun alX v pa mem1 H1 locs1 ag hk hP hD hS => ?_)
  have hk2 := hk
  unfold sEnd at hk2
  rw [Bool.and_eq_true] at hk2
  have ev := eqO_ok hk2.1
  have em := eqL_ok eqC_ok _ _ hk2.2
  subst ev em
  have aX0 : alX 0 = qX := ag 0 (Or.inl (by show 0 < 1; omega))
  have hstX2 := hSt (fun i => alX (pmO i)) (by show alX (pmO 1000000) = t0; rw [show pmO 1000000 = 1000000 by decide]; exact ag 1000000 (Or.inr (by omega))) (by show alX (pmO 1000001) = t1; rw [show pmO 1000001 = 1000001 by decide]; exact ag 1000001 (Or.inr (by omega)))
  have aX1 : (fun i => alX (pmO i)) 0 = qX := by show alX (pmO 0) = qX; rw [show pmO 0 = 0 by decide]; exact aX0
  refine lv_astore_n (lv' := [(1, .ref qX), (0, .ref b)]) hx hb dl_7 rfl hl (by decide) rfl (fun ls hl => ?_)
  exact kk D cy qX t0 t1 (fun i => alX (pmO i)) _ _ _ _ _ aX1 hstX2 hK hSt (by have := made_X; omega) (by have := made_X; omega) (perm_P hP) (perm_D hD) hS hl
