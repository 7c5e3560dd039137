/-! 69: the law: all of it, the operations being proved -/
theorem law_start3 {p : Program} {e : Env} {s : State} {m : MethodId} {below : List Frame} {meth : Method} {c : Code} (l : Launch) {b L : Nat} {xs : Nat → Int32} {D : va_G} {cy : Nat → ClassId} {alX alM : Nat → Nat} {H : Heap} {locs : List Loc} {ls : Array Slot} (ops : AllOps l D cy alX alM) (hL : L ≤ 3072) (C0 : lw_At p s m meth c b L xs) (hK : va_K D vwCl (sT cy) s) (hstX : sSt alX (fun q => s.heap.size ≤ q) s s.heap) (hstM : sSt alM (fun q => s.heap.size ≤ q) s s.heap)
    (hP : va_P D vwCl (sW ((fun _ => 0), (fun _ => 0)) alM cy hid0 (sW ((fun _ => 0), (fun _ => 0)) alX cy hid0 [] tX0) tM0) H) (hD : va_D (fun q => s.heap.size ≤ q) (sW ((fun _ => 0), (fun _ => 0)) alM cy hid0 (sW ((fun _ => 0), (fun _ => 0)) alX cy hid0 [] tX0) tM0)) (hS : va_S (fun q => s.heap.size ≤ q) s.heap H locs) (hl : lv_has ls 4 [(2, .ref (alM 0)), (1, .ref (alX 0)), (0, .ref b)]) : W p l e room_1 s m #[Value.ref b] below meth c H locs 600000 7302250 (lw_Z below #[Value.ref b] s) (F0 m 16 ls []) := by
  obtain ⟨hx, hb, hr, hml, hown, hts, hX, hbl, hlocks, hgv⟩ := id C0
  refine lv_iconst (v := 0) hx hb dl_16 (by decide) ?_
  refine lv_istore_n (lv' := [(3, .int 0), (2, .ref (alM 0)), (1, .ref (alX 0)), (0, .ref b)]) hx hb dl_17 rfl hl (by decide) rfl (fun ls hl => ?_)
  have ew : sW ((fun _ => 0), (fun _ => 0)) alM cy hid0 (sW ((fun _ => 0), (fun _ => 0)) alX cy hid0 [] tX0) tM0 = tW (eJ ((fun _ => 0), (fun _ => 0)) tX0 tM0) alM cy (tW (eJ ((fun _ => 0), (fun _ => 0)) tX0 tM0) alX cy [] 68 tXv) 45 tMv := (init_wM _).trans (congrArg (fun w => tW (eJ ((fun _ => 0), (fun _ => 0)) tX0 tM0) alM cy w 45 tMv) (init_w _))
  rw [ew] at hP hD
  have hI := init_Inv ((fun _ => 0), (fun _ => 0))
  generalize eJ ((fun _ => 0), (fun _ => 0)) tX0 tM0 = r at hP hD hI
  have hl2 : lv_has ls 4 [(0, .ref b), (3, .int (Int32.ofNat 0)), (1, .ref (alX 0)), (2, .ref (alM 0))] := lv_sub hl [3, 0, 2, 1] rfl
  exact law_loop hL C0 hK hstX hstM ops L 0 (by omega) (by omega) r _ _ _ hI (wB_backP hP) (wB_backD hD) hS hl2
/-- the law's body, all operations being proved -/
theorem law_start {p : Program} {e : Env} {s : State} {m : MethodId} {below : List Frame} {meth : Method} {c : Code} (l : Launch) {b L : Nat} {xs : Nat → Int32} (ops : ∀ (D : va_G) (cy : Nat → ClassId) (alX alM : Nat → Nat), AllOps l D cy alX alM) (hL : L ≤ 3072) (C0 : lw_At p s m meth c b L xs) : W p l e room_1 s m #[Value.ref b] below meth c s.heap [] 0 0 (lw_Z below #[Value.ref b] s) (entryFrame m ([Value.ref b] : List Value).toArray 4) := by
  refine law_start1 l (fun D cy qX t0 t1 alX H locs ls cells slots aX0 hstX hK hSt hc hs hP hD hS hl => ?_) C0
  subst aX0
  exact law_start2 l C0 hK hSt hP hD hS hl hc hs (fun alM H locs ls hstM hP hD hS hl => law_start3 l (ops D cy alX alM) hL C0 hK hstX hstM hP hD hS hl)
