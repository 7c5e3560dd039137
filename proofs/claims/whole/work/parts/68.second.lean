/-! 68: the law: the model's making -/
set_option maxHeartbeats 1000000 in
theorem law_start2 {p : Program} {e : Env} {s : State} {m : MethodId} {below : List Frame} {meth : Method} {c : Code} (l : Launch) {b L : Nat} {xs : Nat → Int32} {D : va_G} {cy : Nat → ClassId} {qX t0 t1 : Nat} {W0 : va_W} {H : Heap} {locs : List Loc} {ls : Array Slot} {cells slots : Nat} (C0 : lw_At p s m meth c b L xs) (hK : va_K D vwCl (sT cy) s) (hSt : ∀ al : Nat → Nat, al 1000000 = t0 → al 1000001 = t1 → sSt al (fun q => s.heap.size ≤ q) s s.heap) (hP : va_P D vwCl W0 H) (hD : va_D (fun q => s.heap.size ≤ q) W0) (hS : va_S (fun q => s.heap.size ≤ q) s.heap H locs) (hl : lv_has ls 4 [(1, .ref qX), (0, .ref b)]) (hc : cells ≤ 2000) (hs : slots ≤ 20000)
    (kk : ∀ (alM : Nat → Nat) (H : Heap) (locs : List Loc) (ls : Array Slot), sSt alM (fun q => s.heap.size ≤ q) s s.heap → va_P D vwCl (sW ((fun _ => 0), (fun _ => 0)) alM cy hid0 W0 tM0) H → va_D (fun q => s.heap.size ≤ q) (sW ((fun _ => 0), (fun _ => 0)) alM cy hid0 W0 tM0) → va_S (fun q => s.heap.size ≤ q) s.heap H locs → lv_has ls 4 [(2, .ref (alM 0)), (1, .ref qX), (0, .ref b)] → W p l e room_1 s m #[Value.ref b] below meth c H locs 600000 7302250 (lw_Z below #[Value.ref b] s) (F0 m 16 ls [])) : W p l e room_1 s m #[Value.ref b] below meth c H locs cells slots (lw_Z below #[Value.ref b] s) (F0 m 8 ls []) := by
  obtain ⟨hx, hb, hr, hml, hown, hts, hX, hbl, hlocks, hgv⟩ := id C0
  have hA : ∀ q : Nat, s.heap.size ≤ q → (fun q : Nat => s.heap.size ≤ q) q := fun _ h => h
  have r1 : room_1.cells = 600000 := by decide +kernel
  have r2 : room_1.slots = 7302250 := by decide +kernel
  have hty : ∀ ci C T N, vwCl[ci]? = some (C, T, N) → ∀ k, k < N → parseFieldDescriptor (T k).2.2.1 = some (sTy ci k) := fun ci C T N h => (sFldC_ok ci C T N h).2
  refine va_new (ci := 11) (fs := (sNewF 11).map (sVal ((fun _ => 0), (fun _ => 0)) (fun _ => 0))) (C := RX13) (T := TX13) (N := 59) hx hb hts (fun w h => sTb_in ((sFld_ok 11 _ _ _ rfl).1 w h)) (sTy 11) (hty 11 _ _ _ rfl) hown (hts (.classLink R_law 10 "SwapTablesModel") (List.mem_of_getElem? (i := 899) (by decide +kernel))) (hts (.instantiable "SwapTablesModel" 59) (List.mem_of_getElem? (i := 900) (by decide +kernel))) (hts (.initialized "SwapTablesModel") (List.mem_of_getElem? (i := 90) (by decide +kernel))) hK hP hD hS hA rfl (sNewF_ok (ci := 11) (by decide)) (by rw [r1]; omega) (by rw [r2]; omega) dl_8 (fun qM H2 hP hD hS => ?_)
  refine lv_dup hx hb dl_11 rfl ?_
  have hstM := hSt (alS qM t0 t1) rfl rfl
  have hP' := va_P.swap (a := []) hP
  have hD' := va_D.swap (a := []) hD
  refine law_callC (al := alS qM t0 t1) (r := ((fun _ => 0), (fun _ => 0))) (hid := hid0) (rest := W0) (a := 139) (SV := [.ref qM]) hx hb hml hown hts hK hstM dl_12 (List.mem_of_getElem? (i := 901) (by decide +kernel)) (sRunC_met l sPa_nil run_M) rfl rfl (by show 1 + 0 ≤ 8; omega) hP' hD' hS hl.1 (by have := made_M; constructor <;> omega) (fun alM v pa mem1 H3 locs3 agM hk hP hD hS => ?_)
  have hk2 := hk
  unfold sEnd at hk2
  rw [Bool.and_eq_true] at hk2
  have ev := eqO_ok hk2.1
  have em := eqL_ok eqC_ok _ _ hk2.2
  subst ev em
  have aM0 : alM 0 = qM := agM 0 (Or.inl (by show 0 < 1; omega))
  have hstM2 := hSt alM (agM 1000000 (Or.inr (by omega))) (agM 1000001 (Or.inr (by omega)))
  refine lv_astore_n (lv' := [(2, .ref qM), (1, .ref qX), (0, .ref b)]) hx hb dl_15 rfl hl (by decide) rfl (fun ls hl => ?_)
  refine W.widen (k := 600000) (n := 7302250) (by have := made_M; omega) (by have := made_M; omega) ?_
  rw [← aM0] at hl
  exact kk alM H3 locs3 ls hstM2 hP hD hS hl
