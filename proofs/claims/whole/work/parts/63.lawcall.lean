/-! 63: the law: a call of an operation; both objects' world -/
/-- both objects -/
def wB (r : sE) (alX alM : Nat → Nat) (cy : Nat → ClassId) : va_W := tW r alX cy (tW r alM cy [] 45 tMv) 68 tXv
theorem tW_nil {r : sE} {al : Nat → Nat} {cy : Nat → ClassId} {rest : va_W} {n : Nat} {t : Nat → sC} : tW r al cy rest n t = tW r al cy [] n t ++ rest := by
  unfold tW
  rw [List.append_nil]
theorem wB_swapP {r1 r2 : sE} {alX alM : Nat → Nat} {cy : Nat → ClassId} {D : va_G} {H : Heap} (h : va_P D vwCl (tW r1 alX cy (tW r2 alM cy [] 45 tMv) 68 tXv) H) : va_P D vwCl (tW r2 alM cy (tW r1 alX cy [] 68 tXv) 45 tMv) H := by
  rw [tW_nil] at h ⊢
  exact va_P.swap (a := []) h
theorem wB_swapD {r1 r2 : sE} {alX alM : Nat → Nat} {cy : Nat → ClassId} {A : Nat → Prop} (h : va_D A (tW r1 alX cy (tW r2 alM cy [] 45 tMv) 68 tXv)) : va_D A (tW r2 alM cy (tW r1 alX cy [] 68 tXv) 45 tMv) := by
  rw [tW_nil] at h ⊢
  exact va_D.swap (a := []) h
theorem wB_backP {r1 r2 : sE} {alX alM : Nat → Nat} {cy : Nat → ClassId} {D : va_G} {H : Heap} (h : va_P D vwCl (tW r2 alM cy (tW r1 alX cy [] 68 tXv) 45 tMv) H) : va_P D vwCl (tW r1 alX cy (tW r2 alM cy [] 45 tMv) 68 tXv) H := by
  rw [tW_nil] at h ⊢
  exact va_P.swap (a := []) h
theorem wB_backD {r1 r2 : sE} {alX alM : Nat → Nat} {cy : Nat → ClassId} {A : Nat → Prop} (h : va_D A (tW r2 alM cy (tW r1 alX cy [] 68 tXv) 45 tMv)) : va_D A (tW r1 alX cy (tW r2 alM cy [] 45 tMv) 68 tXv) := by
  rw [tW_nil] at h ⊢
  exact va_D.swap (a := []) h
theorem wB_eB {r1 r2 : sE} {alX alM : Nat → Nat} {cy : Nat → ClassId} : tW r1 alX cy (tW r2 alM cy [] 45 tMv) 68 tXv = wB (eB r1 r2) alX alM cy := by
  have h1 : tW r1 alX cy (tW r2 alM cy [] 45 tMv) 68 tXv = tW (eB r1 r2) alX cy (tW r2 alM cy [] 45 tMv) 68 tXv := by
    unfold tW
    congr 1
    apply List.map_congr_left
    intro i hi
    rw [List.mem_range] at hi
    rw [canC_ok (r2 := eB r1 r2) (r := r1) (tXv_can i hi).2 (fun j hj => ?_)]
    unfold eB
    have h1 : (4096 * (0 + i) + j) / 4096 < 69 := by omega
    simp only [if_pos h1]
    exact ⟨trivial, trivial⟩
  have h2 : tW r2 alM cy [] 45 tMv = tW (eB r1 r2) alM cy [] 45 tMv := by
    unfold tW
    congr 1
    apply List.map_congr_left
    intro i hi
    rw [List.mem_range] at hi
    rw [canC_ok (r2 := eB r1 r2) (r := r2) (tMv_can i hi).2 (fun j hj => ?_)]
    unfold eB
    have h1 : ¬ (4096 * (69 + i) + j) / 4096 < 69 := by omega
    simp only [if_neg h1]
    exact ⟨trivial, trivial⟩
  rw [h1]
  unfold wB
  rw [← h2]
section LC
variable {p : Program} {l : Launch} {e : Env} {s : State} {m : MethodId} {below : List Frame} {meth : Method} {c : Code} {b : Nat} {Q : State → Prop} {D : va_G} {cy : Nat → ClassId} {al : Nat → Nat}
set_option maxHeartbeats 1000000 in
theorem law_call {cells slots : Nat} (hx : p.tables.exec = Jvm.exec) (hb : c.code = code) (hml : c.maxLocals = 4) (hown : s.vm.findClass R_law = some m.cls) (hts0 : ∀ w ∈ lw_tbl, w.before #[Value.ref b] s = true) (hK : va_K D vwCl (sT cy) s) (hst : sSt al (fun q => s.heap.size ≤ q) s s.heap)
    {pc idx mi : Nat} {ls : Array Slot} {H : Heap} {locs : List Loc} {w : va_W} {as1 SV : List Value} {h0 j : Nat} {fs : List Value} {G : Option Value → va_W → Prop} (hdec : decode code pc = .ok (.invokevirtual idx, 3)) (hlink : Cond.methodLink R_law idx (MI mi).1 ∈ lw_tbl) (hci : (PG mi).2.2.2.1 ≠ 99) (hj : w[j]? = some (h0, (Sum.inr ((PG mi).2.2.2.1, fs) : va_E))) (hna : as1.length + 1 = (PG mi).2.2.1) (hcat : (SV.map fun v => v.category).sum ≤ 8)
    (hM0 : gMet l D cy al 200 mi w (.ref h0 :: as1) G) (hP : va_P D vwCl w H) (hD : va_D (fun q => s.heap.size ≤ q) w) (hS : va_S (fun q => s.heap.size ≤ q) s.heap H locs) (hls : ls.size = 4) (hcs : cells ≤ 600000 ∧ slots ≤ 7302250)
    (kk : ∀ (v : Option Value) (w2 : va_W) (H1 : Heap) (locs1 : List Loc), G v w2 → va_P D vwCl w2 H1 → va_D (fun q => s.heap.size ≤ q) w2 → va_S (fun q => s.heap.size ≤ q) s.heap H1 locs1 → W p l e room_1 s m #[Value.ref b] below meth c H1 locs1 cells slots Q (F0 m (pc + 3) ls (v.toList ++ SV))) :
    W p l e room_1 s m #[Value.ref b] below meth c H locs cells slots Q (F0 m pc ls (as1.reverse ++ .ref h0 :: SV)) := by
  have hts : ∀ w ∈ sTb, w.before #[Value.ref b] s = true := fun w h => hts0 w (sTb_in h)
  have hNw := law_Nw hts0
  have hA : ∀ q : Nat, s.heap.size ≤ q → (fun q : Nat => s.heap.size ≤ q) q := fun _ h => h
  obtain ⟨⟨b1, b2, b3, b4, b5, b6, b7, b8⟩, -⟩ := sGood_ok mi
  have hM := hM0 H.size
  have hFc : ∀ q, va_A w H.size q → (fun q : Nat => s.heap.size ≤ q) q := fun q hq => by
    rcases hq with ⟨j, en, hj⟩ | hq
    · exact hD.2 j _ hj
    · exact hA q (Nat.le_trans hS.1 hq)
  have hpre : ∀ U : State, U.heap = H → s.WarmedH U.vm → va_Pc (.ref h0 :: as1) (cPre D cy al w H.size) (.ref h0 :: as1 : List Value).toArray U := fun U hU hw =>
    ⟨rfl, by rw [hU], by rw [hU]; exact hP, va_K.moved hw.alike hK, hD.weaken (fun _ _ _ _ => trivial), by
      rw [hU]
      exact ((hst.kept (fun a h1 h2 => hS.2.1 a h1 h2)).narrow hFc).moved hw.alike, hNw.warm hw⟩
  have hroom : (sRm 200).frames + 1 ≤ room_1.frames ∧ 8 + ((MI mi).2.2.1 + 11) + (sRm 200).locals ≤ room_1.locals := ⟨by show 201 + 1 ≤ 2048; omega, by show 8 + ((MI mi).2.2.1 + 11) + 64 * 201 ≤ 84000; omega⟩
  have hgi := lw_goodIn b1
  rcases b7 with ⟨w0, -⟩ | ⟨-, w1, w2, ⟨T, N, w3⟩, nn, w4, w5⟩
  · exact absurd w0 hci
  · have hrc := va_recv hK hP w3 hj
    have hn : as1.length = nn := by omega
    exact g_call (va_runV (C := (MI mi).1.cls) (As := as1) (b := h0) ⟨hx, hb, hml, hown, hts⟩ hM ⟨callB_of nn hts hgi rfl rfl rfl (hts _ b2) (hts0 _ hlink) ⟨b3.1, b3.2, w4⟩ hroom, hts _ w1, hts _ w2⟩ ⟨cPre_blind, hrc, hpre⟩ rfl hn hls rfl (lv_room hcat) hdec hcs) hS (fun q _ h => hFc q h) hFc (fun v w2 H1 locs1 q1 q3 q4 q5 => kk v w2 H1 locs1 q1 q3 (q4.weaken (fun j y hy hz => hFc _ hz)) q5)
end LC
