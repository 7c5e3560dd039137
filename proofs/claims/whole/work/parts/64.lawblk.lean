/-! 64: the law: one case, of any operation -/
def dcIs (pc : Nat) (i : Instr) (len : Nat) : Bool := decide (decode code pc = .ok (i, len))
def argOk (pc k : Nat) : Bool := dcIs pc (.aload_n 0) 1 && (dcIs (pc + 1) (.iload_n 3) 1 && (dcIs (pc + 2) (.iconst (Int.ofNat (k + 1))) 1 && (dcIs (pc + 3) .iadd 1 && dcIs (pc + 4) .iaload 1)))
def argsOk (pc : Nat) : Nat → Bool
  | 0 => true
  | n + 1 => argsOk pc n && argOk (pc + 5 * n) n
def cmpOk (q : Nat) (long : Bool) : Bool := match long with
  | false => dcIs q (.if_icmp .eq ((1369 : Int) - q)) 3
  | true => dcIs q .lcmp 1 && dcIs (q + 1) (.ifCond .eq ((1369 : Int) - (q + 1 : Nat))) 3
def caseOk (pc n idxX idxM : Nat) (long : Bool) : Bool := dcIs pc (.aload_n 1) 1 && (argsOk (pc + 1) n && (dcIs (pc + 1 + 5 * n) (.invokevirtual idxX) 3 && (dcIs (pc + 1 + 5 * n + 3) (.aload_n 2) 1 && (argsOk (pc + 1 + 5 * n + 4) n && (dcIs (pc + 1 + 5 * n + 4 + 5 * n) (.invokevirtual idxM) 3 && cmpOk (pc + 1 + 5 * n + 4 + 5 * n + 3) long)))))
/-- n arguments out of the script, from place i0 + 1 on -/
def argL (xs : Nat → Int32) (i0 : Nat) : Nat → List Int32
  | 0 => []
  | n + 1 => argL xs i0 n ++ [xs (i0 + (n + 1))]
theorem argL_len (xs : Nat → Int32) (i0 : Nat) : ∀ n, (argL xs i0 n).length = n
  | 0 => rfl
  | n + 1 => by simp [argL, argL_len xs i0 n]
theorem tW_0 {r : sE} {al : Nat → Nat} {cy : Nat → ClassId} {rest : va_W} {n ci : Nat} {t : Nat → sC} {vs : List sV} (hn : 0 < n) (ht : t 0 = (0, ci, vs)) : (tW r al cy rest n t)[0]? = some (al 0, (Sum.inr (ci, vs.map (sVal r al)) : va_E)) := by
  unfold tW
  rw [List.getElem?_append_left (by simpa using hn), List.getElem?_map, List.getElem?_range hn]
  show some (al 0, sCe r al cy (fun x => Sum.inr (0, [])) (t 0)) = _
  rw [ht]
  rfl
section LB
variable {p : Program} {l : Launch} {e : Env} {s : State} {m : MethodId} {below : List Frame} {meth : Method} {c : Code} {b L : Nat} {xs : Nat → Int32} {Q : State → Prop} {D : va_G} {cy : Nat → ClassId} {alX alM : Nat → Nat} {cells slots : Nat}
theorem law_arg (hx : p.tables.exec = Jvm.exec) (hb : c.code = code) (hX : va_X b L xs s s.heap) (hbl : b < s.heap.size) {H : Heap} {locs : List Loc} (hS : va_S (fun q => s.heap.size ≤ q) s.heap H locs) {pc k i0 : Nat} {ls : Array Slot} {st : List Value} {lv : List (Nat × Value)} (h : argOk pc k = true) (hk : k < 5) (hi : i0 + 5 < L) (hL : L ≤ 3072) (hl : lv_has ls 4 ((0, .ref b) :: (3, .int (Int32.ofNat i0)) :: lv))
    (kk : W p l e room_1 s m #[Value.ref b] below meth c H locs cells slots Q (F0 m (pc + 5) ls (.int (xs (i0 + (k + 1))) :: st))) : W p l e room_1 s m #[Value.ref b] below meth c H locs cells slots Q (F0 m pc ls st) := by
  simp only [argOk, dcIs, Bool.and_eq_true, decide_eq_true_eq] at h
  obtain ⟨h1, h2, h3, h4, h5⟩ := h
  have hbA : ¬ (fun q : Nat => s.heap.size ≤ q) b := Nat.not_le.mpr hbl
  refine lv_aload_n hx hb h1 rfl (lv_at hl 0 rfl) ?_
  refine lv_iload_n hx hb h2 rfl (lv_at hl 1 rfl) ?_
  refine lv_iconst (v := Int32.ofNat (k + 1)) hx hb h3 rfl ?_
  refine lv_iadd hx hb h4 ?_
  have e1 : Int32.ofNat i0 + Int32.ofNat (k + 1) = Int32.ofNat (i0 + (k + 1)) := (Int32.ofNat_add _ _).symm
  rw [e1]
  have e2 : (Int32.ofNat (i0 + (k + 1))).toNatClampNeg = i0 + (k + 1) := Int32.toNatClampNeg_ofNat_of_lt (by omega)
  refine va_sld hx hb hX hbl hbA hS ?_ h5 ?_
  · unfold vp_in
    rw [e2, Int32.lt_iff_toInt_lt]
    simp only [Int32.toInt_ofNat', Int.bmod_def, show ((Int32.size : Nat) : Int) = 4294967296 from rfl]
    have e3 : (0 : Int32).toInt = 0 := by decide
    rw [e3, if_pos (by omega)]
    omega
  · rw [e2]
    exact kk
theorem law_args (hx : p.tables.exec = Jvm.exec) (hb : c.code = code) (hX : va_X b L xs s s.heap) (hbl : b < s.heap.size) {H : Heap} {locs : List Loc} (hS : va_S (fun q => s.heap.size ≤ q) s.heap H locs) {pc i0 : Nat} {ls : Array Slot} {st : List Value} {lv : List (Nat × Value)} (hi : i0 + 5 < L) (hL : L ≤ 3072) (hl : lv_has ls 4 ((0, .ref b) :: (3, .int (Int32.ofNat i0)) :: lv)) :
    ∀ n, n ≤ 5 → argsOk pc n = true → W p l e room_1 s m #[Value.ref b] below meth c H locs cells slots Q (F0 m (pc + 5 * n) ls (((argL xs i0 n).map Value.int).reverse ++ st)) → W p l e room_1 s m #[Value.ref b] below meth c H locs cells slots Q (F0 m pc ls st)
  | 0, _, _, kk => kk
  | n + 1, hn, h, kk => by
    rw [argsOk, Bool.and_eq_true] at h
    refine law_args hx hb hX hbl hS hi hL hl n (by omega) h.1 (law_arg hx hb hX hbl hS h.2 (by omega) hi hL hl ?_)
    have e1 : ((argL xs i0 (n + 1)).map Value.int).reverse ++ st = .int (xs (i0 + (n + 1))) :: (((argL xs i0 n).map Value.int).reverse ++ st) := by simp [argL]
    rw [e1] at kk
    exact kk
set_option maxHeartbeats 1000000 in
theorem law_block (hx : p.tables.exec = Jvm.exec) (hb : c.code = code) (hml : c.maxLocals = 4) (hown : s.vm.findClass R_law = some m.cls) (hts0 : ∀ w ∈ lw_tbl, w.before #[Value.ref b] s = true) (hX : va_X b L xs s s.heap) (hbl : b < s.heap.size) (hL : L ≤ 3072) (hK : va_K D vwCl (sT cy) s) (hstX : sSt alX (fun q => s.heap.size ≤ q) s s.heap) (hstM : sSt alM (fun q => s.heap.size ≤ q) s s.heap) (hcs : cells ≤ 600000 ∧ slots ≤ 7302250)
    {kX kM n pc idxX idxM i0 : Nat} {long : Bool} {ls : Array Slot} {H : Heap} {locs : List Loc} {r : sE} (hop : OpI l D cy alX alM kX kM n) (hn5 : n ≤ 5) (hblk : caseOk pc n idxX idxM long = true) (hlX : Cond.methodLink R_law idxX (MI kX).1 ∈ lw_tbl) (hlM : Cond.methodLink R_law idxM (MI kM).1 ∈ lw_tbl) (hcX : (PG kX).2.2.2.1 = 10) (hcM : (PG kM).2.2.2.1 = 11) (hnX : n + 1 = (PG kX).2.2.1) (hnM : n + 1 = (PG kM).2.2.1) (hrk : (PG kX).2.2.2.2 = cond long 3 1)
    (hi : i0 + 5 < L) (hl : lv_has ls 4 [(0, .ref b), (3, .int (Int32.ofNat i0)), (1, .ref (alX 0)), (2, .ref (alM 0))]) (hI : Inv r) (hP : va_P D vwCl (wB r alX alM cy) H) (hD : va_D (fun q => s.heap.size ≤ q) (wB r alX alM cy)) (hS : va_S (fun q => s.heap.size ≤ q) s.heap H locs)
    (kk : ∀ (r2 : sE) (H1 : Heap) (locs1 : List Loc), Inv r2 → va_P D vwCl (wB r2 alX alM cy) H1 → va_D (fun q => s.heap.size ≤ q) (wB r2 alX alM cy) → va_S (fun q => s.heap.size ≤ q) s.heap H1 locs1 → W p l e room_1 s m #[Value.ref b] below meth c H1 locs1 cells slots Q (F0 m 1369 ls [])) :
    W p l e room_1 s m #[Value.ref b] below meth c H locs cells slots Q (F0 m pc ls []) := by
  simp only [caseOk, Bool.and_eq_true] at hblk
  obtain ⟨d1, d2, d3, d4, d5, d6, d7⟩ := hblk
  have dd : ∀ {pc : Nat} {i : Instr} {len : Nat}, dcIs pc i len = true → decode code pc = .ok (i, len) := fun h => by simpa [dcIs] using h
  obtain ⟨Mid, o1, o2, o3⟩ := hop r (argL xs i0 n) hI (argL_len xs i0 n)
  have hlen : ((argL xs i0 n).map Value.int).length = n := by rw [List.length_map, argL_len]
  refine lv_aload_n hx hb (dd d1) rfl (lv_at hl 2 rfl) ?_
  refine law_args hx hb hX hbl hS hi hL hl n hn5 d2 ?_
  refine law_call (al := alX) (w := wB r alX alM cy) (SV := []) (h0 := alX 0) (j := 0) (as1 := (argL xs i0 n).map Value.int) hx hb hml hown hts0 hK hstX (dd d3) hlX (by rw [hcX]; decide) (by rw [hcX]; exact tW_0 (by omega) rfl) (by rw [hlen]; exact hnX) (by simp) (o1 _) hP hD hS hl.1 hcs (fun v w2 H1 locs1 hG hP1 hD1 hS1 => ?_)
  obtain ⟨r1, hmid, rfl⟩ := hG
  have hkd := o3 v r1 hmid
  have hP2 := wB_swapP hP1
  have hD2 := wB_swapD hD1
  refine lv_aload_n hx hb (dd d4) rfl (lv_at hl 3 rfl) ?_
  refine law_args hx hb hX hbl hS1 hi hL hl n hn5 d5 ?_
  have one : ∀ v1 : Value, v = some v1 → W p l e room_1 s m #[Value.ref b] below meth c H1 locs1 cells slots Q (F0 m (pc + 1 + 5 * n + 4 + 5 * n) ls (((argL xs i0 n).map Value.int).reverse ++ (Value.ref (alM 0) :: [v1]))) := fun v1 hv => by
    have hcat : ([v1].map fun v => v.category).sum ≤ 8 := by
      rcases hkd with ⟨-, y, hy⟩ | ⟨-, y, hy⟩
      · rw [hv] at hy; cases hy; show 1 + 0 ≤ 8; omega
      · rw [hv] at hy; cases hy; show 2 + 0 ≤ 8; omega
    refine law_call (al := alM) (SV := [v1]) (h0 := alM 0) (j := 0) (as1 := (argL xs i0 n).map Value.int) hx hb hml hown hts0 hK hstM (dd d6) hlM (by rw [hcM]; decide) (by rw [hcM]; exact tW_0 (by omega) rfl) (by rw [hlen]; exact hnM) hcat (o2 v r1 hmid _) hP2 hD2 hS1 hl.1 hcs (fun v2 w2 H2 locs2 hG hP3 hD3 hS3 => ?_)
    obtain ⟨rfl, r2, rfl, hI2⟩ := hG
    have hP4 := wB_backP hP3
    have hD4 := wB_backD hD3
    rw [wB_eB] at hP4 hD4
    have fin := kk (eB r1 r2) H2 locs2 hI2 hP4 hD4 hS3
    subst hv
    cases long with
    | false =>
      rcases hkd with ⟨-, y, hy⟩ | ⟨q, -⟩
      · cases hy
        refine lv_icmp_eq (tgt := 1369) hx hb (dd d7) (by omega) (fun _ => fin) (fun hne => absurd rfl hne)
      · rw [hrk] at q
        exact absurd q (by decide)
    | true =>
      rcases hkd with ⟨q, -⟩ | ⟨-, y, hy⟩
      · rw [hrk] at q
        exact absurd q (by decide)
      · cases hy
        simp only [cmpOk, Bool.and_eq_true] at d7
        refine W.lcmp hx hb (dd d7.1) ?_
        have e0 : lg_cmp y y = 0 := by
          unfold lg_cmp
          simp only [gt_iff_lt, Int64.lt_iff_toInt_lt]
          split
          · omega
          · rfl
        rw [e0]
        exact lv_if_eq (tgt := 1369) hx hb (dd d7.2) (by omega) (fun _ => fin) (fun hne => absurd rfl hne)
  rcases hkd with ⟨-, y, hy⟩ | ⟨-, y, hy⟩
  · subst hy; exact one _ rfl
  · subst hy; exact one _ rfl
end LB
