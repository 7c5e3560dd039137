/-! 66: the law: its loop (by wip/whole/mk66, in mk65) -/
theorem and63 (a : Int32) : ∃ v, v < 64 ∧ a &&& 63 = Int32.ofNat v := by
  refine ⟨fN (a &&& 63), ?_, (fN_ok _).symm⟩
  show ((a &&& 63).toBitVec).toNat < 64
  rw [Int32.toBitVec_and, BitVec.toNat_and]
  have h := Nat.and_le_right (n := a.toBitVec.toNat) (m := ((63 : Int32).toBitVec).toNat)
  have e : ((63 : Int32).toBitVec).toNat = 63 := by decide
  rw [e] at h ⊢
  omega
section LL
variable {p : Program} {l : Launch} {e : Env} {s : State} {m : MethodId} {below : List Frame} {meth : Method} {c : Code} {b L : Nat} {xs : Nat → Int32} {D : va_G} {cy : Nat → ClassId} {alX alM : Nat → Nat}
set_option maxHeartbeats 4000000 in
theorem law_loop (hL : L ≤ 3072) (C0 : lw_At p s m meth c b L xs) (hK : va_K D vwCl (sT cy) s) (hstX : sSt alX (fun q => s.heap.size ≤ q) s s.heap) (hstM : sSt alM (fun q => s.heap.size ≤ q) s s.heap) (ops : AllOps l D cy alX alM) :
    ∀ (N i0 : Nat), i0 ≤ 4000 → L ≤ i0 + N → ∀ (r : sE) (H : Heap) (locs : List Loc) (ls : Array Slot), Inv r → va_P D vwCl (wB r alX alM cy) H → va_D (fun q => s.heap.size ≤ q) (wB r alX alM cy) → va_S (fun q => s.heap.size ≤ q) s.heap H locs → lv_has ls 4 [(0, .ref b), (3, .int (Int32.ofNat i0)), (1, .ref (alX 0)), (2, .ref (alM 0))] → W p l e room_1 s m #[Value.ref b] below meth c H locs 600000 7302250 (lw_Z below #[Value.ref b] s) (F0 m 18 ls []) := by
  obtain ⟨hx, hb, hr, hml, hown, hts, hX, hbl, hlocks, hgv⟩ := id C0
  have hbA : ¬ (fun q : Nat => s.heap.size ≤ q) b := Nat.not_le.mpr hbl
  obtain ⟨o0, o1, o2, o3, o4, o5, o6, o7, o8, o9, o10, o11, o12, o13, o14, o15, o16, o17, o18, o19, o20, o21, o22, o23, o24, o25, o26, o27, o28, o29, o30, o31, o32, o33, o34, o35, o36⟩ := ops
  have eL : (Int32.ofNat L - 6).toInt = (L : Int) - 6 := by
    rw [Int32.toInt_sub]
    have e6 : (6 : Int32).toInt = 6 := by decide
    simp only [e6, Int32.toInt_ofNat', Int.bmod_def, show ((Int32.size : Nat) : Int) = 4294967296 from rfl]
    omega
  intro N
  induction N with
  | zero => ?_
  | succ N ih => ?_
  all_goals
    intro i0 hi4 hN r H locs ls hI hP hD hS hl
    have ei : (Int32.ofNat i0).toInt = (i0 : Int) := by
      simp only [Int32.toInt_ofNat', Int.bmod_def, show ((Int32.size : Nat) : Int) = 4294967296 from rfl]
      omega
    refine lv_iload_n hx hb dl_18 rfl (lv_at hl 1 rfl) ?_
    refine lv_aload_n hx hb dl_19 rfl (lv_at hl 0 rfl) ?_
    refine va_slen hx hb hX hbl hbA hS dl_20 ?_
    refine lv_bipush (v := 6) hx hb dl_21 (by decide) ?_
    refine lv_isub hx hb dl_23 ?_
    refine lv_icmp_gt (tgt := 1375) hx hb dl_24 (by decide) (fun _ => ?_) (fun hgo => ?_)
    · refine lv_iconst (v := 1) hx hb dl_1375 (by decide) ?_
      refine va_forget (fun q hq => hS.2.2 q hq) ?_
      exact lw_ret hx hb hr hlocks dl_1376
    have hi : i0 + 5 < L := by
      have h2 : ¬ (Int32.ofNat L - 6) < Int32.ofNat i0 := hgo
      rw [Int32.lt_iff_toInt_lt, eL, ei] at h2
      omega
  · omega
  · refine lv_aload_n hx hb dl_27 rfl (lv_at hl 0 rfl) ?_
    refine lv_iload_n hx hb dl_28 rfl (lv_at hl 1 rfl) ?_
    refine va_sld hx hb hX hbl hbA hS ?_ dl_29 ?_
    · unfold vp_in
      have e2 : (Int32.ofNat i0).toNatClampNeg = i0 := Int32.toNatClampNeg_ofNat_of_lt (by omega)
      have e3 : (0 : Int32).toInt = 0 := by decide
      rw [e2, Int32.lt_iff_toInt_lt, ei, e3]
      omega
    generalize xs (Int32.ofNat i0).toNatClampNeg = x0
    refine lv_bipush (v := 63) hx hb dl_30 (by decide) ?_
    refine lv_iand hx hb dl_32 ?_
    obtain ⟨v, hv, ev⟩ := and63 x0
    rw [ev]
    have back : ∀ (r2 : sE) (H1 : Heap) (locs1 : List Loc), Inv r2 → va_P D vwCl (wB r2 alX alM cy) H1 → va_D (fun q => s.heap.size ≤ q) (wB r2 alX alM cy) → va_S (fun q => s.heap.size ≤ q) s.heap H1 locs1 → W p l e room_1 s m #[Value.ref b] below meth c H1 locs1 600000 7302250 (lw_Z below #[Value.ref b] s) (F0 m 1369 ls []) := fun r2 H1 locs1 g1 g2 g3 g4 => by
      refine lv_iinc (k := 1) (v := Int32.ofNat (i0 + 6)) (lv' := [(3, .int (Int32.ofNat (i0 + 6))), (0, .ref b), (1, .ref (alX 0)), (2, .ref (alM 0))]) hx hb dl_1369 hl rfl (by rw [Int32.ofNat_add]; rfl) (by decide) rfl (fun ls' hl' => ?_)
      refine lv_goto (tgt := 18) hx hb dl_1372 (by decide) ?_
      exact ih (i0 + 6) (by omega) (by omega) r2 H1 locs1 ls' g1 g2 g3 g4 (lv_sub hl' [1, 0, 2, 3] rfl)
    have hcs : 600000 ≤ 600000 ∧ 7302250 ≤ 7302250 := ⟨Nat.le_refl _, Nat.le_refl _⟩
    by_cases h37 : v < 37
    · match v, h37 with
      | 0, _ => exact lv_tableIn (off := 163) (tgt := 196) hx hb dl_33 (by decide) (by decide) rfl (by decide) (law_block hx hb hml hown hts hX hbl hL hK hstX hstM hcs o0 (by decide) blk_0 blx_0 blm_0 rfl rfl rfl rfl rfl hi hl hI hP hD hS back)
      | 1, _ => exact lv_tableIn (off := 226) (tgt := 259) hx hb dl_33 (by decide) (by decide) rfl (by decide) (law_block hx hb hml hown hts hX hbl hL hK hstX hstM hcs o1 (by decide) blk_1 blx_1 blm_1 rfl rfl rfl rfl rfl hi hl hI hP hD hS back)
      | 2, _ => exact lv_tableIn (off := 249) (tgt := 282) hx hb dl_33 (by decide) (by decide) rfl (by decide) (law_block hx hb hml hown hts hX hbl hL hK hstX hstM hcs o2 (by decide) blk_2 blx_2 blm_2 rfl rfl rfl rfl rfl hi hl hI hP hD hS back)
      | 3, _ => exact lv_tableIn (off := 293) (tgt := 326) hx hb dl_33 (by decide) (by decide) rfl (by decide) (law_block hx hb hml hown hts hX hbl hL hK hstX hstM hcs o3 (by decide) blk_3 blx_3 blm_3 rfl rfl rfl rfl rfl hi hl hI hP hD hS back)
      | 4, _ => exact lv_tableIn (off := 336) (tgt := 369) hx hb dl_33 (by decide) (by decide) rfl (by decide) (law_block hx hb hml hown hts hX hbl hL hK hstX hstM hcs o4 (by decide) blk_4 blx_4 blm_4 rfl rfl rfl rfl rfl hi hl hI hP hD hS back)
      | 5, _ => exact lv_tableIn (off := 359) (tgt := 392) hx hb dl_33 (by decide) (by decide) rfl (by decide) (law_block hx hb hml hown hts hX hbl hL hK hstX hstM hcs o5 (by decide) blk_5 blx_5 blm_5 rfl rfl rfl rfl rfl hi hl hI hP hD hS back)
      | 6, _ => exact lv_tableIn (off := 392) (tgt := 425) hx hb dl_33 (by decide) (by decide) rfl (by decide) (law_block hx hb hml hown hts hX hbl hL hK hstX hstM hcs o6 (by decide) blk_6 blx_6 blm_6 rfl rfl rfl rfl rfl hi hl hI hP hD hS back)
      | 7, _ => exact lv_tableIn (off := 435) (tgt := 468) hx hb dl_33 (by decide) (by decide) rfl (by decide) (law_block hx hb hml hown hts hX hbl hL hK hstX hstM hcs o7 (by decide) blk_7 blx_7 blm_7 rfl rfl rfl rfl rfl hi hl hI hP hD hS back)
      | 8, _ => exact lv_tableIn (off := 458) (tgt := 491) hx hb dl_33 (by decide) (by decide) rfl (by decide) (law_block hx hb hml hown hts hX hbl hL hK hstX hstM hcs o8 (by decide) blk_8 blx_8 blm_8 rfl rfl rfl rfl rfl hi hl hI hP hD hS back)
      | 9, _ => exact lv_tableIn (off := 491) (tgt := 524) hx hb dl_33 (by decide) (by decide) rfl (by decide) (law_block hx hb hml hown hts hX hbl hL hK hstX hstM hcs o9 (by decide) blk_9 blx_9 blm_9 rfl rfl rfl rfl rfl hi hl hI hP hD hS back)
      | 10, _ => exact lv_tableIn (off := 525) (tgt := 558) hx hb dl_33 (by decide) (by decide) rfl (by decide) (law_block hx hb hml hown hts hX hbl hL hK hstX hstM hcs o10 (by decide) blk_10 blx_10 blm_10 rfl rfl rfl rfl rfl hi hl hI hP hD hS back)
      | 11, _ => exact lv_tableIn (off := 558) (tgt := 591) hx hb dl_33 (by decide) (by decide) rfl (by decide) (law_block hx hb hml hown hts hX hbl hL hK hstX hstM hcs o11 (by decide) blk_11 blx_11 blm_11 rfl rfl rfl rfl rfl hi hl hI hP hD hS back)
      | 12, _ => exact lv_tableIn (off := 591) (tgt := 624) hx hb dl_33 (by decide) (by decide) rfl (by decide) (law_block hx hb hml hown hts hX hbl hL hK hstX hstM hcs o12 (by decide) blk_12 blx_12 blm_12 rfl rfl rfl rfl rfl hi hl hI hP hD hS back)
      | 13, _ => exact lv_tableIn (off := 625) (tgt := 658) hx hb dl_33 (by decide) (by decide) rfl (by decide) (law_block hx hb hml hown hts hX hbl hL hK hstX hstM hcs o13 (by decide) blk_13 blx_13 blm_13 rfl rfl rfl rfl rfl hi hl hI hP hD hS back)
      | 14, _ => exact lv_tableIn (off := 669) (tgt := 702) hx hb dl_33 (by decide) (by decide) rfl (by decide) (law_block hx hb hml hown hts hX hbl hL hK hstX hstM hcs o14 (by decide) blk_14 blx_14 blm_14 rfl rfl rfl rfl rfl hi hl hI hP hD hS back)
      | 15, _ => exact lv_tableIn (off := 723) (tgt := 756) hx hb dl_33 (by decide) (by decide) rfl (by decide) (law_block hx hb hml hown hts hX hbl hL hK hstX hstM hcs o15 (by decide) blk_15 blx_15 blm_15 rfl rfl rfl rfl rfl hi hl hI hP hD hS back)
      | 16, _ => exact lv_tableIn (off := 757) (tgt := 790) hx hb dl_33 (by decide) (by decide) rfl (by decide) (law_block hx hb hml hown hts hX hbl hL hK hstX hstM hcs o16 (by decide) blk_16 blx_16 blm_16 rfl rfl rfl rfl rfl hi hl hI hP hD hS back)
      | 17, _ => exact lv_tableIn (off := 781) (tgt := 814) hx hb dl_33 (by decide) (by decide) rfl (by decide) (law_block hx hb hml hown hts hX hbl hL hK hstX hstM hcs o17 (by decide) blk_17 blx_17 blm_17 rfl rfl rfl rfl rfl hi hl hI hP hD hS back)
      | 18, _ => exact lv_tableIn (off := 805) (tgt := 838) hx hb dl_33 (by decide) (by decide) rfl (by decide) (law_block hx hb hml hown hts hX hbl hL hK hstX hstM hcs o18 (by decide) blk_18 blx_18 blm_18 rfl rfl rfl rfl rfl hi hl hI hP hD hS back)
      | 19, _ => exact lv_tableIn (off := 828) (tgt := 861) hx hb dl_33 (by decide) (by decide) rfl (by decide) (law_block hx hb hml hown hts hX hbl hL hK hstX hstM hcs o19 (by decide) blk_19 blx_19 blm_19 rfl rfl rfl rfl rfl hi hl hI hP hD hS back)
      | 20, _ => exact lv_tableIn (off := 861) (tgt := 894) hx hb dl_33 (by decide) (by decide) rfl (by decide) (law_block hx hb hml hown hts hX hbl hL hK hstX hstM hcs o20 (by decide) blk_20 blx_20 blm_20 rfl rfl rfl rfl rfl hi hl hI hP hD hS back)
      | 21, _ => exact lv_tableIn (off := 905) (tgt := 938) hx hb dl_33 (by decide) (by decide) rfl (by decide) (law_block hx hb hml hown hts hX hbl hL hK hstX hstM hcs o21 (by decide) blk_21 blx_21 blm_21 rfl rfl rfl rfl rfl hi hl hI hP hD hS back)
      | 22, _ => exact lv_tableIn (off := 939) (tgt := 972) hx hb dl_33 (by decide) (by decide) rfl (by decide) (law_block hx hb hml hown hts hX hbl hL hK hstX hstM hcs o22 (by decide) blk_22 blx_22 blm_22 rfl rfl rfl rfl rfl hi hl hI hP hD hS back)
      | 23, _ => exact lv_tableIn (off := 972) (tgt := 1005) hx hb dl_33 (by decide) (by decide) rfl (by decide) (law_block hx hb hml hown hts hX hbl hL hK hstX hstM hcs o23 (by decide) blk_23 blx_23 blm_23 rfl rfl rfl rfl rfl hi hl hI hP hD hS back)
      | 24, _ => exact lv_tableIn (off := 1016) (tgt := 1049) hx hb dl_33 (by decide) (by decide) rfl (by decide) (law_block hx hb hml hown hts hX hbl hL hK hstX hstM hcs o24 (by decide) blk_24 blx_24 blm_24 rfl rfl rfl rfl rfl hi hl hI hP hD hS back)
      | 25, _ => exact lv_tableIn (off := 1049) (tgt := 1082) hx hb dl_33 (by decide) (by decide) rfl (by decide) (law_block hx hb hml hown hts hX hbl hL hK hstX hstM hcs o25 (by decide) blk_25 blx_25 blm_25 rfl rfl rfl rfl rfl hi hl hI hP hD hS back)
      | 26, _ => exact lv_tableIn (off := 1092) (tgt := 1125) hx hb dl_33 (by decide) (by decide) rfl (by decide) (law_block hx hb hml hown hts hX hbl hL hK hstX hstM hcs o26 (by decide) blk_26 blx_26 blm_26 rfl rfl rfl rfl rfl hi hl hI hP hD hS back)
      | 27, _ => exact lv_tableIn (off := 1126) (tgt := 1159) hx hb dl_33 (by decide) (by decide) rfl (by decide) (law_block hx hb hml hown hts hX hbl hL hK hstX hstM hcs o27 (by decide) blk_27 blx_27 blm_27 rfl rfl rfl rfl rfl hi hl hI hP hD hS back)
      | 28, _ => exact lv_tableIn (off := 1159) (tgt := 1192) hx hb dl_33 (by decide) (by decide) rfl (by decide) (law_block hx hb hml hown hts hX hbl hL hK hstX hstM hcs o28 (by decide) blk_28 blx_28 blm_28 rfl rfl rfl rfl rfl hi hl hI hP hD hS back)
      | 29, _ => exact lv_tableIn (off := 1182) (tgt := 1215) hx hb dl_33 (by decide) (by decide) rfl (by decide) (law_block hx hb hml hown hts hX hbl hL hK hstX hstM hcs o29 (by decide) blk_29 blx_29 blm_29 rfl rfl rfl rfl rfl hi hl hI hP hD hS back)
      | 30, _ => exact lv_tableIn (off := 1195) (tgt := 1228) hx hb dl_33 (by decide) (by decide) rfl (by decide) (law_block hx hb hml hown hts hX hbl hL hK hstX hstM hcs o30 (by decide) blk_30 blx_30 blm_30 rfl rfl rfl rfl rfl hi hl hI hP hD hS back)
      | 31, _ => exact lv_tableIn (off := 1218) (tgt := 1251) hx hb dl_33 (by decide) (by decide) rfl (by decide) (law_block hx hb hml hown hts hX hbl hL hK hstX hstM hcs o31 (by decide) blk_31 blx_31 blm_31 rfl rfl rfl rfl rfl hi hl hI hP hD hS back)
      | 32, _ => exact lv_tableIn (off := 1231) (tgt := 1264) hx hb dl_33 (by decide) (by decide) rfl (by decide) (law_block hx hb hml hown hts hX hbl hL hK hstX hstM hcs o32 (by decide) blk_32 blx_32 blm_32 rfl rfl rfl rfl rfl hi hl hI hP hD hS back)
      | 33, _ => exact lv_tableIn (off := 1254) (tgt := 1287) hx hb dl_33 (by decide) (by decide) rfl (by decide) (law_block hx hb hml hown hts hX hbl hL hK hstX hstM hcs o33 (by decide) blk_33 blx_33 blm_33 rfl rfl rfl rfl rfl hi hl hI hP hD hS back)
      | 34, _ => exact lv_tableIn (off := 1287) (tgt := 1320) hx hb dl_33 (by decide) (by decide) rfl (by decide) (law_block hx hb hml hown hts hX hbl hL hK hstX hstM hcs o34 (by decide) blk_34 blx_34 blm_34 rfl rfl rfl rfl rfl hi hl hI hP hD hS back)
      | 35, _ => exact lv_tableIn (off := 1300) (tgt := 1333) hx hb dl_33 (by decide) (by decide) rfl (by decide) (law_block hx hb hml hown hts hX hbl hL hK hstX hstM hcs o35 (by decide) blk_35 blx_35 blm_35 rfl rfl rfl rfl rfl hi hl hI hP hD hS back)
      | 36, _ => exact lv_tableIn (off := 1313) (tgt := 1346) hx hb dl_33 (by decide) (by decide) rfl (by decide) (law_block hx hb hml hown hts hX hbl hL hK hstX hstM hcs o36 (by decide) blk_36 blx_36 blm_36 rfl rfl rfl rfl rfl hi hl hI hP hD hS back)
      | k + 37, hk => exact absurd hk (by omega)
    · refine lv_tableOut (tgt := 1369) hx hb dl_33 (Or.inr ?_) (by decide) (back r H locs hI hP hD hS)
      have e1 : (Int32.ofNat v).toInt = v := by
        simp only [Int32.toInt_ofNat', Int.bmod_def, show ((Int32.size : Nat) : Int) = 4294967296 from rfl]
        omega
      rw [e1]
      omega
end LL
