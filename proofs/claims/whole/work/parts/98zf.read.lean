/-! 98zf: read (by wip/whole/mk98zf.py) -/
noncomputable def LRx (q : Nat) (x : Option sV) : sL := [some (.inr (.inr (some (nat_lit 0)))), some (.inl (.natCast q)), x]
theorem q_rxE : allL 4 (fun q => sEnt [.inr (.inr (some (nat_lit 0))), .inl (.natCast q)] (PG (nat_lit 120)).2.1 (fun L => eqL eqO L (LRx q none))) = true := by decide +kernel
theorem q_rx0 : allL 4 (fun q => sBeg (nat_lit 0) (nat_lit 68) tXv (memB [(nat_lit 0), (nat_lit 1)]) [] (fun m0 => sx PG (nat_lit 500) (nat_lit 200) (PG (nat_lit 120)) (fun pc => memB [(nat_lit 28)] pc) (fun pc L st _ m => Bool.and (eqL eqC m m0) (kAt (nat_lit 28) (LRx q none) [.inl (.var (nat_lit 4097)), .inl (.var (nat_lit 7)), .inr (.inr (some (nat_lit 48))), .inr (.inr (some (nat_lit 49)))] pc L st)) (fun v _ m => Bool.and (eqL eqC m m0) false) (nat_lit 0) (LRx q none) [] [] m0)) = true := by decide +kernel
theorem q_rxN : allL 4 (fun q => sBeg (nat_lit 0) (nat_lit 68) tXv (memB [(nat_lit 0)]) [] (fun m0 => sx PG (nat_lit 2000) (nat_lit 200) (PG (nat_lit 120)) (fun pc => memB [(nat_lit 48)] pc) (fun pc L st _ m => Bool.and (sKC (cRg [((nat_lit 7), (nat_lit 7))]) (nat_lit 0) (nat_lit 68) tXv (memB [(nat_lit 0)]) m0 m) false) (fun v _ m => Bool.and (sKC (cRg [((nat_lit 7), (nat_lit 7))]) (nat_lit 0) (nat_lit 68) tXv (memB [(nat_lit 0)]) m0 m) (Bool.and (eqO v (some (.inl (.var (nat_lit 819290))))) (isE m (nat_lit 0) (nat_lit 7) (.natCast (nat_lit 0))))) (nat_lit 31) (LRx q none) [.inl (.var (nat_lit 819290))] [(false, true, (.var (nat_lit 819290)), (.natCast (nat_lit 0)))] m0)) = true := by decide +kernel
theorem q_rxP : allL 4 (fun q => sBeg (nat_lit 0) (nat_lit 68) tXv (memB [(nat_lit 0)]) [] (fun m0 => sx PG (nat_lit 2000) (nat_lit 200) (PG (nat_lit 120)) (fun pc => memB [(nat_lit 48)] pc) (fun pc L st _ m => Bool.and (sKC (cRg [((nat_lit 7), (nat_lit 7))]) (nat_lit 0) (nat_lit 68) tXv (memB [(nat_lit 0)]) m0 m) (Bool.and (kAt (nat_lit 48) (LRx q (some (.inl (.var (nat_lit 819290))))) [.inl (.var (nat_lit 819290)), .inl (.natCast q), .inr (.inr (some (nat_lit 0)))] pc L st) (isE m (nat_lit 0) (nat_lit 7) (.natCast (nat_lit 0))))) (fun v _ m => Bool.and (sKC (cRg [((nat_lit 7), (nat_lit 7))]) (nat_lit 0) (nat_lit 68) tXv (memB [(nat_lit 0)]) m0 m) false) (nat_lit 31) (LRx q none) [.inl (.var (nat_lit 819290))] [(false, false, (.var (nat_lit 819290)), (.natCast (nat_lit 0)))] m0)) = true := by decide +kernel
theorem q_rxR : allL 4 (fun q => allL 11 (fun n => sx PG 10 200 (PG 120) (fun _ => false) (fun _ _ _ _ _ => false) (fun v _ m => Bool.and (eqL eqC m []) (eqO v (some (.inl (.natCast n))))) 51 (LRx q none) [.inl (.natCast n)] [] [])) = true := by decide +kernel
noncomputable def LRy (q : Nat) (x y : Option sV) : sL := [some (.inr (.inr (some (nat_lit 0)))), some (.inl (.natCast q)), x, y]
theorem q_ryE : allL 4 (fun q => sEnt [.inr (.inr (some (nat_lit 0))), .inl (.natCast q)] (PG (nat_lit 222)).2.1 (fun L => eqL eqO L (LRy q none none))) = true := by decide +kernel
theorem q_ry0 : allL 4 (fun q => sBeg (nat_lit 69) (nat_lit 45) tMv (memB [(nat_lit 0)]) [] (fun m0 => sx PG (nat_lit 500) (nat_lit 172) (PG (nat_lit 222)) (fun pc => memB [(nat_lit 11)] pc) (fun pc L st _ m => Bool.and (eqL eqC m m0) (kAt (nat_lit 11) (LRy q none none) [.inl (.natCast (nat_lit 0)), .inr (.inr (some (nat_lit 0)))] pc L st)) (fun v _ m => Bool.and (eqL eqC m m0) false) (nat_lit 0) (LRy q none none) [] [] m0)) = true := by decide +kernel
theorem q_ryA : allL 4 (fun q => allL 81 (fun k => sBeg (nat_lit 69) (nat_lit 45) tMv (memB [(nat_lit 0), (nat_lit 37)]) [((nat_lit 0), (nat_lit 49), (.natCast (Nat.succ k)))] (fun m0 => sx PG (nat_lit 2000) (nat_lit 172) (PG (nat_lit 222)) (fun pc => memB [(nat_lit 41)] pc) (fun pc L st _ m => Bool.and (sKC (cRg [((nat_lit 282665), (nat_lit 282665))]) (nat_lit 69) (nat_lit 45) tMv (memB [(nat_lit 0), (nat_lit 37)]) m0 m) false) (fun v _ m => Bool.and (sKC (cRg [((nat_lit 282665), (nat_lit 282665))]) (nat_lit 69) (nat_lit 45) tMv (memB [(nat_lit 0), (nat_lit 37)]) m0 m) (Bool.and (eqO v (some (.inl (.pow (.mul (.natCast (nat_lit 4294967196)) (.var (Nat.add (nat_lit 434176) k))) (nat_lit 1))))) (isE m (nat_lit 0) (nat_lit 41) (.natCast (nat_lit 0))))) (nat_lit 14) (LRy q none none) [.inl (.natCast (nat_lit 0))] [] m0))) = true := by decide +kernel
theorem q_ryB : allL 4 (fun q => sx PG (nat_lit 20) (nat_lit 172) (PG (nat_lit 222)) (fun pc => Nat.beq pc (nat_lit 41)) (fun pc L st _ m => Bool.and (eqL eqC m []) (kAt (nat_lit 41) (LRy q (some (.inl (.natCast (nat_lit 1)))) none) [.inl (.natCast (nat_lit 1)), .inr (.inr (some (nat_lit 0)))] pc L st)) (fun _ _ m => Bool.and (eqL eqC m []) false) (nat_lit 14) (LRy q none none) [.inl (.natCast (nat_lit 1))] [] []) = true := by decide +kernel
theorem q_ryC : allL 4 (fun q => sBeg (nat_lit 69) (nat_lit 45) tMv (memB [(nat_lit 0)]) [] (fun m0 => sx PG (nat_lit 2000) (nat_lit 172) (PG (nat_lit 222)) (fun pc => memB [(nat_lit 84)] pc) (fun pc L st _ m => Bool.and (sKC (cRg [((nat_lit 282665), (nat_lit 282665))]) (nat_lit 69) (nat_lit 45) tMv (memB [(nat_lit 0)]) m0 m) false) (fun v _ m => Bool.and (sKC (cRg [((nat_lit 282665), (nat_lit 282665))]) (nat_lit 69) (nat_lit 45) tMv (memB [(nat_lit 0)]) m0 m) (Bool.and (eqO v (some (.inl (.natCast (nat_lit 4294967294))))) (isE m (nat_lit 0) (nat_lit 41) (.natCast (nat_lit 0))))) (nat_lit 44) (LRy q (some (.inl (.natCast (nat_lit 1)))) none) [.inl (.natCast (nat_lit 0))] [] m0)) = true := by decide +kernel
theorem q_ryD : allL 4 (fun q => sBeg (nat_lit 69) (nat_lit 45) tMv (memB [(nat_lit 0), (nat_lit 14), (nat_lit 38)]) [] (fun m0 => sx PG (nat_lit 2000) (nat_lit 172) (PG (nat_lit 222)) (fun pc => memB [(nat_lit 84)] pc) (fun pc L st _ m => Bool.and (sKC (cRg [((nat_lit 282665), (nat_lit 282665)), ((nat_lit 339969), (nat_lit 339973))]) (nat_lit 69) (nat_lit 45) tMv (memB [(nat_lit 0), (nat_lit 14), (nat_lit 38)]) m0 m) (Bool.and (kAt (nat_lit 84) (LRy q (some (.inl (.natCast (nat_lit 1)))) (some (.inl (.natCast (nat_lit 6))))) [.inl (.natCast q), .inr (.inr (some (nat_lit 0)))] pc L st) (Bool.and (isE m (nat_lit 0) (nat_lit 41) (.natCast (nat_lit 0))) (allL 5 (fun i => isE m (nat_lit 14) (Nat.succ i) (.var (Nat.add (nat_lit 438273) i))))))) (fun v _ m => Bool.and (sKC (cRg [((nat_lit 282665), (nat_lit 282665)), ((nat_lit 339969), (nat_lit 339973))]) (nat_lit 69) (nat_lit 45) tMv (memB [(nat_lit 0), (nat_lit 14), (nat_lit 38)]) m0 m) false) (nat_lit 44) (LRy q (some (.inl (.natCast (nat_lit 1)))) none) [.inl (.natCast (nat_lit 1))] [] m0)) = true := by decide +kernel
theorem q_ryR : allL 4 (fun q => allL 11 (fun n => sx PG 10 172 (PG 222) (fun _ => false) (fun _ _ _ _ _ => false) (fun v _ m => Bool.and (eqL eqC m []) (eqO v (some (.inl (.natCast n))))) 87 (LRy q (some (.inl (.natCast (nat_lit 1)))) (some (.inl (.natCast (nat_lit 6))))) [.inl (.natCast n)] [] [])) = true := by decide +kernel
def CHX : List (Nat × Nat) := [(200707, 229379), (7, 7)]
theorem csRX : allL 18 (fun c => allL 68 (fun i => csG (cRg CHX) (tX c i).2.2 (Nat.mul (nat_lit 4096) (Nat.add (nat_lit 0) i)))) = true := by decide +kernel
theorem csRM : allL 18 (fun c => allL 45 (fun i => csG (cRg CHQ) (tM c i).2.2 (Nat.mul (nat_lit 4096) (Nat.add (nat_lit 69) i)))) = true := by decide +kernel
theorem rd_pl : allL 12 (fun id => Bool.or (Bool.or (Nat.beq id (nat_lit 9)) (Nat.beq id (nat_lit 10))) (lAll (fun u => Bool.and (Bool.not (cRg CHX u)) (Bool.not (cRg CHQ u))) (cPl id))) = true := by decide +kernel
theorem rdX_cC {c : Nat} (hc : c < 18) {r r1 : sE} (h : kpC (cRg CHX) 0 68 tXv r r1) (hr : cC 0 68 (tX c) r) : cC 0 68 (tX c) r1 := kpC_cC (tX_ok hc) (fun i hi => allL_ok (allL_ok csRX c hc) i hi) h hr
theorem rdM_cC {c : Nat} (hc : c < 18) {r r1 : sE} (h : kpC (cRg CHQ) 69 45 tMv r r1) (hr : cC 69 45 (tM c) r) : cC 69 45 (tM c) r1 := kpC_cC (tM_ok hc) (fun i hi => allL_ok (allL_ok csRM c hc) i hi) h hr
def whyE (r1 r2 : sE) : Prop := ∃ z, z ≤ 81 ∧ r1.1 (xP 50 0) = Int32.ofNat z ∧ r2.1 (mP 0 49) = Int32.ofNat z ∧ ∀ i, i < z → r2.1 (mP 36 i) = r1.1 (xP 51 i) ∧ r2.1 (mP 37 i) = r1.1 (xP 52 i)
/-- the state behind a text that was read -/
theorem Inv_rd {r r1 r2 : sE} {c : Nat} (hc : c < 18) (hcc : CC c r) (hcm : ∀ id, id < 12 → Comp id c r) (h1 : kpC (cRg CHX) 0 68 tXv r r1) (h2 : kpC (cRg CHQ) 69 45 tMv r r2) (z1 : r1.1 (xP 0 7) = Int32.ofNat 0) (z2 : r2.1 (mP 0 41) = Int32.ofNat 0) (hw : whyE r1 r2) (hW5 : W5 r2 0) (hL5 : L5 r2) : CC c (eB r1 r2) ∧ ∀ id, id < 12 → Comp id c (eB r1 r2) := by
  have eX : ∀ v, v / 4096 < 69 → (eB r1 r2).1 v = r1.1 v ∧ (eB r1 r2).2 v = r1.2 v := fun v hv => by
    unfold eB
    simp only [if_pos hv]
    exact ⟨trivial, trivial⟩
  have eM : ∀ v, ¬ v / 4096 < 69 → (eB r1 r2).1 v = r2.1 v ∧ (eB r1 r2).2 v = r2.2 v := fun v hv => by
    unfold eB
    simp only [if_neg hv]
    exact ⟨trivial, trivial⟩
  have kX := rdX_cC hc h1 hcc.1
  have kM := rdM_cC hc h2 hcc.2
  refine ⟨⟨fun i hi j k => ?_, fun i hi j k => ?_⟩, fun id hid => ?_⟩
  · have h4 : ∀ y, (tX c i).2.2[j]? = some y → j < 4096 := fun y hy => Nat.lt_of_lt_of_le (List.getElem?_eq_some_iff.mp hy).1 (spC_at (tX_ok hc i hi).2).2.1
    exact ⟨fun hy => by have := h4 _ hy; rw [(eX _ (by omega)).1]; exact (kX i hi j k).1 hy, fun hy => by have := h4 _ hy; rw [(eX _ (by omega)).2]; exact (kX i hi j k).2 hy⟩
  · exact ⟨fun hy => by rw [(eM _ (by omega)).1]; exact (kM i hi j k).1 hy, fun hy => by rw [(eM _ (by omega)).2]; exact (kM i hi j k).2 hy⟩
  · by_cases e9 : id = 9
    · subst e9
      show cP (eB r1 r2)
      exact ⟨0, by omega, (eX _ (by unfold xP; omega)).1.trans z1, (eM _ (by unfold mP; omega)).1.trans z2, fun i hi => absurd hi (by omega)⟩
    by_cases e10 : id = 10
    · subst e10
      obtain ⟨z, w0, w1, w2, w3⟩ := hw
      show cW (eB r1 r2)
      refine ⟨z, w0, (eX _ (by unfold xP; omega)).1.trans w1, (eM _ (by unfold mP; omega)).1.trans w2, fun i hi => ?_, fun i hi => ?_, fun d hd => ?_⟩
      · obtain ⟨a1, a2⟩ := w3 i hi
        rw [(eM _ (show ¬ mP 36 i / 4096 < 69 by unfold mP; omega)).1, (eM _ (show ¬ mP 37 i / 4096 < 69 by unfold mP; omega)).1, (eX _ (show xP 51 i / 4096 < 69 by unfold xP; omega)).1, (eX _ (show xP 52 i / 4096 < 69 by unfold xP; omega)).1]
        exact ⟨a1, a2⟩
      · obtain ⟨k, k1, k2⟩ := hL5 i hi
        exact ⟨k, k1, (eM _ (by unfold mP; omega)).1.trans k2⟩
      · obtain ⟨k, k1, k2⟩ := hW5 (6 * d) (by omega) (Or.inl (by omega))
        refine ⟨k, k1, (eM _ (by unfold mP; omega)).1.trans ?_⟩
        rw [← k2]
        exact congrArg r2.1 (by unfold mP; omega)
    · refine Comp_congr hid rfl (fun u hu => ?_) (hcm id hid)
      have h5 := allL_ok rd_pl id hid
      rw [Bool.or_eq_true, Bool.or_eq_true] at h5
      rcases h5 with (h5 | h5) | h5
      · exact absurd (Nat.eq_of_beq_eq_true h5) e9
      · exact absurd (Nat.eq_of_beq_eq_true h5) e10
      · have h6 := lAll_ok h5 u hu
        rw [Bool.and_eq_true] at h6
        have h7 := lAll_ok (cPl_varv id hid) u hu
        rw [Bool.or_eq_true] at h7
        rcases h7 with h7 | h7
        · rw [(eX u (by have h8 : u / 4096 < 68 := (isV_ok h7).2.1; omega)).1]
          exact h1.1 u h7 (not_t h6.1)
        · rw [(eM u (by have h8 : 69 ≤ u / 4096 := (isV_ok h7).1; omega)).1]
          exact h2.1 u h7 (not_t h6.2)
/-- what the class' read leaves -/
def rdMid (n z : Nat) (B : Nat → Nat) (q zs c : Nat) (r : sE) (v : Option Value) (r1 : sE) : Prop := (∃ p T, outA n z B p T ∧ v = some (.int (faV p)) ∧ kpC (cRg CHX) 0 68 tXv r r1 ∧ r1.1 (xP 0 7) = Int32.ofNat 0 ∧ WHX r1 T) ∨ (∃ T, outC n z B T ∧ v = some (.int (Int32.ofNat 4294967294)) ∧ kpC (cRg CHX) 0 68 tXv r r1 ∧ r1.1 (xP 0 7) = Int32.ofNat 0 ∧ WHX r1 T) ∨ ∃ m ra, outB n z B m ∧ v = some (.int (Int32.ofNat (lenO m))) ∧ kpC (cRg CHX) 0 68 tXv r ra ∧ ra.1 (xP 0 7) = Int32.ofNat 0 ∧ (∀ u, whyP u → ra.1 u = r.1 u) ∧ PuX zs q m ra r1 ∧ cC 0 68 (tX c) r1
theorem faV_neg : ∀ p, p < 81 → faV p < Int32.ofNat 0 := by decide +kernel
theorem oc_pos {m : List Nat} (hm : m ∈ ORDS) : ¬ Int32.ofNat (ocode m) < Int32.ofNat 0 := by
  have h : ocode m ≤ 1000000 := Nat.le_of_ble_eq_true (lAll_ok ocode_lt m hm)
  rw [Int32.lt_iff_toInt_lt]
  simp only [Int32.toInt_ofNat', Int.bmod_def, show ((Int32.size : Nat) : Int) = 4294967296 from rfl]
  omega
section RF
variable {D : va_G} {cy : Nat → ClassId} {al : Nat → Nat} {rest : va_W}
theorem LRx_eq {r : sE} {q : Nat} {vs : List Int32} {x : Option sV} : (LRx q x).map (Option.map (sVal (uM r vs) al)) = [some (.ref (al 0)), some (.int (Int32.ofNat q)), x.map (sVal (uM r vs) al)] := by
  simp only [LRx, List.map_cons, List.map_nil, Option.map_some, sVal, sI_c]
theorem LRx_eq0 {r : sE} {q : Nat} : (LRx q none).map (Option.map (sVal r al)) = [some (.ref (al 0)), some (.int (Int32.ofNat q)), none] := by
  simp only [LRx, List.map_cons, List.map_nil, Option.map_some, Option.map_none, sVal, sI_c]
theorem CHX_B {r r1 : sE} (h : kpC (cRg CHB) 0 68 tXv r r1) : kpC (cRg CHX) 0 68 tXv r r1 := cRg_w h ⟨⟨200707, 229379, by simp [CHX], by omega, by omega⟩, trivial⟩
theorem c_rdX (l : Launch) {r : sE} {q n z zs c : Nat} {B : Nat → Nat} (hq : q < 4) (hc : c < 18) (hcc : cC 0 68 (tX c) r) (hn : 1 ≤ n) (hn5 : n ≤ 5) (hn1 : r.1 (xP 1 1) = Int32.ofNat n) (hz : z ≤ 80) (hz0 : r.1 (xP 0 7) = Int32.ofNat z) (hB : ∀ i, i < z → r.1 (xP 48 i) = Int32.ofNat (B i) ∧ B i < 127) (hzs : zs ≤ 10) (h44 : r.1 (xP 44 0) = Int32.ofNat zs) : gMet l D cy al 200 120 (tW r al cy rest 68 tXv) [.ref (al 0), .int (Int32.ofNat q)] (fun v w => ∃ r1, rdMid n z B q zs c r v r1 ∧ w = tW r1 al cy rest 68 tXv) := by
  have key := gMet_ofL (l := l) (D := D) (cy := cy) (al := al) (d := 200) (k := 120) (w := tW r al cy rest 68 tXv) (r := uM r []) (G := fun v w => ∃ r1, rdMid n z B q zs c r v r1 ∧ w = tW r1 al cy rest 68 tXv) (allL_ok q_rxE q hq) (fun At hFCd hLD => ?_)
  · simp only [List.map_cons, List.map_nil, sVal, sI_c] at key
    exact key
  have hFC := hFCd 200 (Nat.le_refl _)
  have wk3 : ∀ {pc : Nat} {a b c : Option Value} {SV : List Value} {w2 : va_W}, At pc [a, b, none] SV w2 → At pc [a, b, c] SV w2 := fun {pc a b c SV w2} h => hLD.2.2 pc _ [a, b, none] _ _ rfl (fun i v hv => by
    match i, hv with
    | 0, hv => exact hv
    | 1, hv => exact hv
    | 2, hv => cases hv
    | i + 3, hv => cases hv) h
  have g := g_segV hFC (r := r) (vs := []) (al := al) (cy := cy) (rest := rest) (by omega) tXv_ok cC_X sPa_nil oX_nil (allL_ok q_rx0 q hq) (fun pc L st pa hk1 hp1 => ?_) (fun v pa hk1 => nomatch hk1)
  · exact g
  obtain ⟨rfl, rfl, rfl⟩ := kAt_ok hk1
  have es : List.map (sVal (uM r []) al) [.inl (.var (nat_lit 4097)), .inl (.var (nat_lit 7)), .inr (.inr (some (nat_lit 48))), .inr (.inr (some (nat_lit 49)))] = ([.ref (al 49), .ref (al 48), .int (Int32.ofNat z), .int (Int32.ofNat n)] : List Value).reverse ++ [] := by
    simp only [List.map_cons, List.map_nil, sVal]
    rw [uMv (by decide), uMv (by decide), show r.1 4097 = Int32.ofNat n from hn1, show r.1 7 = Int32.ofNat z from hz0]
    rfl
  rw [es, LRx_eq]
  refine hFC.2 28 31 26 199 _ _ _ _ _ ⟨_, _, rfl, rfl⟩ rfl (by decide) rfl (gRecv_x (j := 49) (show 49 < 68 by omega) rfl rfl) (c_wkX l (by omega) hn hn5 hz hB) (fun v1 w2 h => ?_)
  obtain ⟨⟨x, rfl⟩, r1, rfl, hk, hout⟩ := h
  -- refused
  have neg : x < Int32.ofNat 0 → (∀ r2, kpC (cRg [(7, 7)]) 0 68 tXv r1 r2 → r2.1 (xP 0 7) = Int32.ofNat 0 → rdMid n z B q zs c r (some (.int x)) r2) → At 31 [some (.ref (al 0)), some (.int (Int32.ofNat q)), none] [.int x] (tW r1 al cy rest 68 tXv) := fun hx hG => by
    have g := g_segU hFC (r := r1) (vs := [x]) (al := al) (cy := cy) (rest := rest) (by omega) tXv_ok cC_X (sPa_cons.mpr ⟨(sKd_t (e := false)).mpr (by
      show sI _ (.var (nat_lit 819290)) < sI _ (.natCast 0)
      rw [uM0, sI_c]
      exact hx), sPa_nil⟩) oX_nil (allL_ok q_rxN q hq) (fun m0 pc L st pa m9 hk2 => nomatch hk2) (fun m0 v pa m9 hk2 hp2 hkp0 => ?_)
    · rw [LRx_eq] at g
      simp only [List.map_cons, List.map_nil, sVal, uM0] at g
      exact g
    rw [Bool.and_eq_true] at hk2
    have hkp : kpC (cRg [(7, 7)]) 0 68 tXv r1 _ := hkp0
    have hv : v.map (sVal (uM r1 [x]) al) = some (.int x) := by
      rw [eqO_ok hk2.1]
      show some (Value.int (sI _ _)) = _
      rw [uM0]
    rw [hv]
    exact ⟨_, hG _ hkp (eU_c (by first | decide | omega) hk2.2), rfl⟩
  have pos : ¬ x < Int32.ofNat 0 → (∀ ra, kpC (cRg [(7, 7)]) 0 68 tXv r1 ra → ra.1 (xP 0 7) = Int32.ofNat 0 → At 48 [some (.ref (al 0)), some (.int (Int32.ofNat q)), some (.int x)] [.int x, .int (Int32.ofNat q), .ref (al 0)] (tW ra al cy rest 68 tXv)) → At 31 [some (.ref (al 0)), some (.int (Int32.ofNat q)), none] [.int x] (tW r1 al cy rest 68 tXv) := fun hx hG => by
    have g := g_segU hFC (r := r1) (vs := [x]) (al := al) (cy := cy) (rest := rest) (by omega) tXv_ok cC_X (sPa_cons.mpr ⟨(sKd_f (e := false)).mpr (by
      show ¬ sI _ (.var (nat_lit 819290)) < sI _ (.natCast 0)
      rw [uM0, sI_c]
      exact hx), sPa_nil⟩) oX_nil (allL_ok q_rxP q hq) (fun m0 pc L st pa m9 hk2 hp2 hkp0 => ?_) (fun m0 v pa m9 hk2 => nomatch hk2)
    · rw [LRx_eq] at g
      simp only [List.map_cons, List.map_nil, sVal, uM0] at g
      exact g
    rw [Bool.and_eq_true] at hk2
    obtain ⟨rfl, rfl, rfl⟩ := kAt_ok hk2.1
    have hkp : kpC (cRg [(7, 7)]) 0 68 tXv r1 _ := hkp0
    have hz2 := eU_c (b := 0) (r := r1) (vs := [x]) (by decide) hk2.2
    have e := hG _ hkp hz2
    generalize eOf 0 (uM r1 [x]) m9 = ra at e ⊢
    rw [LRx_eq]
    simp only [List.map_cons, List.map_nil, Option.map_some, sVal, uM0, sI_c]
    exact e
  have whx : ∀ (r2 : sE) (T : txT), T.length ≤ 81 → kpC (cRg [(7, 7)]) 0 68 tXv r1 r2 → WHX r1 T → WHX r2 T := fun r2 T hT hk2 h => WHX_st hk2 hT ⟨by first | omega | (unfold xP; omega), trivial⟩ (fun i hi => ⟨⟨by first | omega | (unfold xP; omega), trivial⟩, ⟨by first | omega | (unfold xP; omega), trivial⟩⟩) h
  have kpx : ∀ r2 : sE, kpC (cRg [(7, 7)]) 0 68 tXv r1 r2 → kpC (cRg CHX) 0 68 tXv r r2 := fun r2 hk2 => kpC_trans (CHX_B hk) (cRg_w hk2 ⟨⟨7, 7, by simp [CHX], by omega, by omega⟩, trivial⟩)
  rcases hout with ⟨p, σ, h1, h2, h3, h4, h5⟩ | ⟨σ, m, h1, h2, h3, hm, h⟩
  · injection h4 with h4
    injection h4 with h4
    subst h4
    have hp := h2.1
    exact neg (faV_neg p (by omega)) (fun r2 hk2 hz2 => Or.inl ⟨p, _, ⟨σ, h1, h2, h3, rfl⟩, rfl, kpx r2 hk2, hz2, whx r2 _ (by simp; omega) hk2 h5⟩)
  rcases h with ⟨hW, hv, hst⟩ | ⟨T, hW, hT, hv, hwh⟩
  · injection hv with hv
    injection hv with hv
    subst hv
    refine pos (oc_pos (ordN_in hm)) (fun ra hkp hz2 => ?_)
    refine wk3 ?_
    rw [← LRx_eq0 (r := ra)]
    have hkx := kpx ra hkp
    have h44a : ra.1 (xP 44 0) = Int32.ofNat zs := (kpR hkx (show isV 0 68 tXv (xP 44 0) = true by decide +kernel) ⟨by first | omega | (unfold xP; omega), by first | omega | (unfold xP; omega), trivial⟩).trans h44
    exact x_tail hFC (by omega) ⟨_, _, rfl, rfl⟩ (fun n hn => allL_ok (allL_ok q_rxR q hq) n hn) hq hzs h44a (ordN_in hm) hc (rdX_cC hc hkx hcc) (fun r2 g1 g2 => ⟨r2, Or.inr (Or.inr ⟨m, ra, ⟨hm, σ, h1, h2, h3, hW⟩, rfl, hkx, hz2, fun u hu => (kpR hkp (vX_w hu) (by unfold whyP at hu; exact ⟨by first | omega | (unfold xP; omega), trivial⟩)).trans (hst u hu), g1, g2⟩), rfl⟩)
  · injection hv with hv
    injection hv with hv
    subst hv
    exact neg (by decide) (fun r2 hk2 hz2 => Or.inr (Or.inl ⟨T, ⟨hT, σ, m, h1, h2, h3, hW⟩, rfl, kpx r2 hk2, hz2, whx r2 T hT hk2 hwh⟩))
theorem LRy_eq {r : sE} {q : Nat} {vs : List Int32} {x y : Option sV} : (LRy q x y).map (Option.map (sVal (uM r vs) al)) = [some (.ref (al 0)), some (.int (Int32.ofNat q)), x.map (sVal (uM r vs) al), y.map (sVal (uM r vs) al)] := by
  simp only [LRy, List.map_cons, List.map_nil, Option.map_some, sVal, sI_c]
/-- what reading leaves of the model -/
def rdEnd (r r2 : sE) : Prop := kpC (cRg CHQ) 69 45 tMv r r2 ∧ r2.1 (mP 0 41) = Int32.ofNat 0 ∧ W5 r2 0 ∧ L5 r2
theorem bad_ne {n z : Nat} {B : Nat → Nat} {σ σ2 : txS} {q : Nat} (h1 : txGo n B tx00 0 σ q) (hb : txBad n B z σ q) (h2 : txGo n B tx00 0 σ2 z) (h3 : σ2.1 = 3) {m : List Nat} (hm : σ2.2.2.1 = [m]) : False := by
  obtain ⟨rfl, rfl⟩ := txH_uni h1 h2 hb.2.1 (Or.inl rfl)
  exact hb.2.2 ⟨rfl, h3, by rw [hm]; rfl⟩
theorem c_rdM (l : Launch) {r : sE} {q n z zs c : Nat} {B : Nat → Nat} {V : Option Value} {Rt : sE → Prop} (hq : q < 4) (hc : c < 18) (hcc : cC 69 45 (tM c) r) (hn : 1 ≤ n) (hn5 : n ≤ 5) (hz : z ≤ 80) (hB : ∀ i, i < z → B i < 127) (hT : TXt n z B r) (hW5 : W5 r 0) (hL5 : L5 r) (hzs : zs ≤ 10) (h17 : r.1 (mP 0 17) = Int32.ofNat zs)
    (hout : (∃ p T, outA n z B p T ∧ V = some (.int (faV p)) ∧ ∀ r2, rdEnd r r2 → WHM r2 T → Rt r2) ∨ (∃ T, outC n z B T ∧ V = some (.int (Int32.ofNat 4294967294)) ∧ ∀ r2, rdEnd r r2 → WHM r2 T → Rt r2) ∨ ∃ m, outB n z B m ∧ V = some (.int (Int32.ofNat (lenO m))) ∧ ∀ ra r2, rdEnd r ra → kpC (cRg CHA) 69 45 tMv r ra → PuM zs q m ra r2 → cC 69 45 (tM c) r2 → Rt r2) : gMet l D cy al 200 222 (tW r al cy rest 45 tMv) [.ref (al 0), .int (Int32.ofNat q)] (fun v w => v = V ∧ ∃ r2, w = tW r2 al cy rest 45 tMv ∧ Rt r2) := by
  have key := gMet_ofL (l := l) (D := D) (cy := cy) (al := al) (d := 200) (k := 222) (w := tW r al cy rest 45 tMv) (r := uM r []) (G := fun v w => v = V ∧ ∃ r2, w = tW r2 al cy rest 45 tMv ∧ Rt r2) (allL_ok q_ryE q hq) (fun At hFCd hLD => ?_)
  · simp only [List.map_cons, List.map_nil, sVal, sI_c] at key
    exact key
  have hFC := hFCd 172 (by omega)
  have ly : ∀ (r2 : sE) (vs : List Int32) (x y : Option sV), (LRy q x y).map (Option.map (sVal (uM r2 vs) al)) = [some (.ref (al 0)), some (.int (Int32.ofNat q)), x.map (sVal (uM r2 vs) al), y.map (sVal (uM r2 vs) al)] := fun r2 vs x y => LRy_eq
  have lc : ∀ (r2 : sE) (k : Nat), (some (.inl (.natCast k)) : Option sV).map (sVal (uM r2 []) al) = some (.int (Int32.ofNat k)) := fun r2 k => by
    show some (Value.int (sI _ _)) = _
    rw [sI_c]
  have g := g_segV hFC (r := r) (vs := []) (al := al) (cy := cy) (rest := rest) (by omega) tMv_ok cC_M sPa_nil oM_nil (allL_ok q_ry0 q hq) (fun pc L st pa hk1 hp1 => ?_) (fun v pa hk1 => nomatch hk1)
  · exact g
  obtain ⟨rfl, rfl, rfl⟩ := kAt_ok hk1
  rw [ly]
  simp only [List.map_cons, List.map_nil, sVal, sI_c]
  -- refused by a FAULT
  have stk : ∀ (r2 : sE) (T : txT) (p : Nat), T.length ≤ 81 → WHM r2 T → kpC (cRg [(282665, 282665)]) 69 45 tMv r2 r2 → True := fun _ _ _ _ _ _ => trivial
  have whm : ∀ (r2 r3 : sE) (T : txT), T.length ≤ 81 → kpC (cRg [(282665, 282665)]) 69 45 tMv r2 r3 → WHM r2 T → WHM r3 T := fun r2 r3 T hT hk2 h => ⟨(kpR hk2 (vM_0 49 (by simp)) ⟨by first | omega | (unfold mP; omega), trivial⟩).trans h.1, rwT_cp (fun i hi => by
    have a1 := kpR hk2 (vM_r.2.1 i (by omega)).2.2.1 ⟨by first | omega | (unfold mP; omega), trivial⟩
    have a2 := kpR hk2 (vM_r.2.1 i (by omega)).2.2.2 ⟨by first | omega | (unfold mP; omega), trivial⟩
    exact ⟨by rw [show mP 36 0 + i = mP 36 i by unfold mP; omega]; exact a1, by rw [show mP 37 0 + i = mP 37 i by unfold mP; omega]; exact a2⟩) h.2⟩
  refine hFC.2 11 14 221 171 _ [.ref (al 0), .int (Int32.ofNat 0)] [] _ _ ⟨_, _, rfl, rfl⟩ rfl (by decide) rfl (gRecv_t (by omega) rfl rfl) (c_alM (w := 0) l (by omega) hn hn5 hz (by omega) hB hT hW5 hL5) (fun v1 w2 h => ?_)
  obtain ⟨r1, rfl, h⟩ := h
  rcases h with ⟨rfl, hk1, hT1, hw1, hl1, σ1, o1, e1, e2, e3, -⟩ | ⟨rfl, hk1, hw1, hl1, p1, σ1, e1, e2, e3, hbd⟩
  · -- the text stands
    have g := g_pure hFC (r := uM r1 []) (al := al) (w := tW r1 al cy rest 45 tMv) sPa_nil (allL_ok q_ryB q hq) (fun pc L st hk => ?_) (fun v hk => nomatch hk)
    · rw [ly] at g
      simp only [List.map_cons, List.map_nil, sVal, sI_c] at g
      exact g
    obtain ⟨rfl, rfl, rfl⟩ := kAt_ok hk
    rw [ly, lc]
    simp only [List.map_cons, List.map_nil, sVal, sI_c]
    refine hFC.2 41 44 221 171 _ [.ref (al 0), .int (Int32.ofNat 1)] [] _ _ ⟨_, _, rfl, rfl⟩ rfl (by decide) rfl (gRecv_t (by omega) rfl rfl) (c_alM (w := 1) l (by omega) hn hn5 hz (by omega) hB hT1 hw1 hl1) (fun v1 w2 h => ?_)
    obtain ⟨r2, rfl, h⟩ := h
    rcases h with ⟨rfl, hk2, hT2, hw2, hl2, σ2, o2, f1, f2, f3, f4⟩ | ⟨rfl, hk2, hw2, hl2, p2, σ2, f1, f2, f3, hbd⟩
    · obtain ⟨x1, x2, x3⟩ := f4 rfl
      have hg := g_segU hFC (r := r2) (vs := []) (al := al) (cy := cy) (rest := rest) (by omega) tMv_ok cC_M sPa_nil oM_nil (allL_ok q_ryD q hq) (fun m0 pc L st pa m9 hk3 hp3 hkp0 => ?_) (fun m0 v pa m9 hk3 => nomatch hk3)
      · rw [ly, lc] at hg
        simp only [List.map_cons, List.map_nil, sVal, sI_c] at hg
        exact hg
      simp only [Bool.and_eq_true] at hk3
      obtain ⟨k0, k1, k2⟩ := hk3
      obtain ⟨rfl, rfl, rfl⟩ := kAt_ok k0
      have hkp : kpC (cRg [(282665, 282665), (339969, 339973)]) 69 45 tMv r2 _ := hkp0
      have z2 := eU_c (b := 69) (r := r2) (vs := []) (by first | decide | omega) k1
      have m2 : ∀ i, i < 5 → (eOf 69 (uM r2 []) m9).1 (mP 14 (1 + i)) = Int32.ofNat (o2.getD i 0) := fun i hi => by
        rw [show mP 14 (1 + i) = 4096 * (69 + 14) + Nat.succ i by unfold mP; omega, ← nthO_eq, ← x3 i hi]
        exact (eU_v (by first | decide | omega) (show 438273 + i < 819290 by omega) (allL_ok k2 i hi)).trans (congrArg r2.1 (show 438273 + i = mP 38 0 + (i + 1) by unfold mP; omega))
      generalize hra : eOf 69 (uM r2 []) m9 = ra at hkp z2 m2
      have hkA : kpC (cRg CHA) 69 45 tMv r ra := kpC_trans (kpC_trans hk1 hk2) (cRg_w hkp ⟨⟨282665, 282665, by simp [CHA], by omega, by omega⟩, ⟨339968, 339973, by simp [CHA], by omega, by omega⟩, trivial⟩)
      have hend : rdEnd r ra := ⟨CHA_Q hkA, z2, W5_st hkp (fun i hi => ⟨by first | omega | (unfold mP; omega), by first | omega | (unfold mP; omega), trivial⟩) hw2, L5_st hkp (fun i hi => ⟨by first | omega | (unfold mP; omega), by first | omega | (unfold mP; omega), trivial⟩) hl2⟩
      rcases hout with ⟨p, T, ⟨σ, a1, a2, a3, rfl⟩, -, -⟩ | ⟨T, ⟨-, σ, m, a1, a2, a3, a4⟩, -, -⟩ | ⟨m, ⟨a0, σ, a1, a2, a3, a4⟩, rfl, hR⟩
      · exact absurd (bad_ne a1 a2 f1 f2 f3) id
      · obtain ⟨-, rfl⟩ := txH_uni a1 f1 (z := z) (Or.inl rfl) (Or.inl rfl)
        rw [a4] at x1
        cases x1
      · obtain ⟨-, rfl⟩ := txH_uni a1 f1 (z := z) (Or.inl rfl) (Or.inl rfl)
        have hmo : m = o2 := by
          rw [a3] at f3
          cases f3
          rfl
        subst hmo
        have hkq := CHA_Q hkA
        have v17 : isV 69 45 tMv (mP 0 17) = true := by decide +kernel
        have es : List.map (sVal (uM r2 []) al) [.inl (.natCast q), .inr (.inr (some (nat_lit 0)))] = [.int (Int32.ofNat q), .ref (al 0)] := by simp only [List.map_cons, List.map_nil, sVal, sI_c]
        rw [es]
        exact m_tail hFC (by omega) ⟨_, _, rfl, rfl⟩ (fun n hn => allL_ok (allL_ok q_ryR q hq) n hn) hq hzs ((kpR hkA v17 ⟨by first | omega | (unfold mP; omega), by first | omega | (unfold mP; omega), by first | omega | (unfold mP; omega), by first | omega | (unfold mP; omega), by first | omega | (unfold mP; omega), by first | omega | (unfold mP; omega), by first | omega | (unfold mP; omega), by first | omega | (unfold mP; omega), by first | omega | (unfold mP; omega), trivial⟩).trans h17) hn hn5 ((kpR hkA (vM_0 1 (by simp)) ⟨by first | omega | (unfold mP; omega), by first | omega | (unfold mP; omega), by first | omega | (unfold mP; omega), by first | omega | (unfold mP; omega), by first | omega | (unfold mP; omega), by first | omega | (unfold mP; omega), by first | omega | (unfold mP; omega), by first | omega | (unfold mP; omega), by first | omega | (unfold mP; omega), trivial⟩).trans hT.1) a0 m2 hc (rdM_cC hc hkq hcc) (fun r3 g1 g2 => ⟨rfl, r3, rfl, hR ra r3 hend hkA g1 g2⟩)
    · have hg := g_segU hFC (r := r2) (vs := []) (al := al) (cy := cy) (rest := rest) (by omega) tMv_ok cC_M sPa_nil oM_nil (allL_ok q_ryC q hq) (fun m0 pc L st pa m9 hk3 => nomatch hk3) (fun m0 v pa m9 hk3 hp3 hkp0 => ?_)
      · rw [ly, lc] at hg
        simp only [List.map_cons, List.map_nil, sVal, sI_c] at hg
        exact hg
      rw [Bool.and_eq_true] at hk3
      have hkp : kpC (cRg [(282665, 282665)]) 69 45 tMv r2 _ := hkp0
      have z2 := eU_c (b := 69) (r := r2) (vs := []) (by first | decide | omega) hk3.2
      rw [vI_ok hk3.1]
      generalize hra : eOf 69 (uM r2 []) m9 = ra at hkp z2
      have hend : rdEnd r ra := ⟨kpC_trans (CHA_Q hk1) (kpC_trans hk2 (cRg_w hkp ⟨⟨282665, 282665, by simp [CHQ], by omega, by omega⟩, trivial⟩)), z2, W5_st hkp (fun i hi => ⟨by first | omega | (unfold mP; omega), trivial⟩) hw2, L5_st hkp (fun i hi => ⟨by first | omega | (unfold mP; omega), trivial⟩) hl2⟩
      rcases hbd with ⟨b1, b2⟩ | ⟨-, b2, b3, σ3, b4, b5, b6⟩
      · exact absurd (bad_ne f1 b1 e1 e2 e3) id
      · -- the class noted it, too
        have hlast : ∀ σ, txGo n B tx00 0 σ z → σ.2.2.2.2.2 = some ((4, p2) :: σ2.2.1) := fun σ h => by
          obtain ⟨σ4, g1, g2⟩ := txGo_step (txGo_det f1 h (by omega)) b2
          rw [b4] at g1
          cases g1
          obtain ⟨k, -, g3⟩ := g2
          exact txGo_W g3 b5
        rcases hout with ⟨p, T, ⟨σ, a1, a2, a3, rfl⟩, -, -⟩ | ⟨T, ⟨a0, σ, m, a1, a2, a3, a4⟩, rfl, hR⟩ | ⟨m, ⟨a0, σ, a1, a2, a3, a4⟩, rfl, hR⟩
        · exact absurd (bad_ne a1 a2 e1 e2 e3) id
        · have h8 := hlast σ a1
          rw [a4] at h8
          cases h8
          exact ⟨rfl, ra, rfl, hR ra hend (whm r2 ra _ a0 hkp b6)⟩
        · have h8 := hlast σ a1
          rw [a4] at h8
          cases h8
  · rcases hbd with ⟨b1, b2⟩ | ⟨b1, -⟩
    · have hT81 : ((1, p1) :: σ1.2.1 : txT).length ≤ 81 := by simp; omega
      have hwm : r1.1 (mP 0 49) = Int32.ofNat (Nat.succ σ1.2.1.length) := b2.1
      have hpl : r1.1 (mP 37 0 + σ1.2.1.length) = Int32.ofNat p1 := b2.2.1.2
      have hg := g_segU hFC (r := r1) (vs := []) (al := al) (cy := cy) (rest := rest) (by omega) tMv_ok cC_M sPa_nil (oM_cons (uMc (by decide) hwm) oM_nil) (allL_ok (allL_ok q_ryA q hq) σ1.2.1.length (by omega)) (fun m0 pc L st pa m9 hk3 => nomatch hk3) (fun m0 v pa m9 hk3 hp3 hkp0 => ?_)
      · rw [ly] at hg
        simp only [List.map_cons, List.map_nil, sVal, sI_c] at hg
        exact hg
      rw [Bool.and_eq_true] at hk3
      have hkp : kpC (cRg [(282665, 282665)]) 69 45 tMv r1 _ := hkp0
      have z2 := eU_c (b := 69) (r := r1) (vs := []) (by first | decide | omega) hk3.2
      have hv : v.map (sVal (uM r1 []) al) = some (.int (faV p1)) := by
        rw [eqO_ok hk3.1]
        show some (Value.int (sD _ _).1) = _
        rw [sD_b]
        show some (Value.int (sI _ (.natCast 4294967196) - sI _ (.var (Nat.add 434176 σ1.2.1.length)))) = _
        rw [sI_c, uMv (show Nat.add 434176 σ1.2.1.length < 819290 by show 434176 + σ1.2.1.length < 819290; omega), show r1.1 (Nat.add 434176 σ1.2.1.length) = Int32.ofNat p1 from hpl]
        rfl
      rw [hv]
      generalize hra : eOf 69 (uM r1 []) m9 = ra at hkp z2
      have hend : rdEnd r ra := ⟨kpC_trans hk1 (cRg_w hkp ⟨⟨282665, 282665, by simp [CHQ], by omega, by omega⟩, trivial⟩), z2, W5_st hkp (fun i hi => ⟨by first | omega | (unfold mP; omega), trivial⟩) hw1, L5_st hkp (fun i hi => ⟨by first | omega | (unfold mP; omega), trivial⟩) hl1⟩
      rcases hout with ⟨p, T, ⟨σ, a1, a2, a3, rfl⟩, rfl, hR⟩ | ⟨T, ⟨a0, σ, m, a1, a2, a3, a4⟩, -, -⟩ | ⟨m, ⟨a0, σ, a1, a2, a3, a4⟩, -, -⟩
      · obtain ⟨rfl, rfl⟩ := txH_uni a1 e1 a2.2.1 b1.2.1
        exact ⟨rfl, ra, rfl, hR ra hend (whm r1 ra _ hT81 hkp b2)⟩
      · exact absurd (bad_ne e1 b1 a1 a2 a3) id
      · exact absurd (bad_ne e1 b1 a1 a2 a3) id
    · exact absurd b1 (by decide)
theorem PuX_e {zs q : Nat} {o : List Nat} {r1 r2 r : sE} (hq : q < 4) (hz : zs ≤ 10) (h : PuX zs q o r1 r) : PuX zs q o (eB r1 r2) r := by
  have ex : ∀ u, isV 0 68 tXv u = true → (eB r1 r2).1 u = r1.1 u := fun u hu => eB_x (by have := (isV_ok hu).2.1; omega)
  have e34 : (eB r1 r2).1 (xP 34 q) = r1.1 (xP 34 q) := eB_x (by unfold xP; omega)
  rcases h with ⟨a1, a2⟩ | ⟨a1, a2, a3, a4⟩
  · exact Or.inl ⟨e34.trans a1, fun u hu => (a2 u hu).trans (ex u hu).symm⟩
  · refine Or.inr ⟨by rw [e34]; exact a1, fun u hu hc => (a2 u hu hc).trans (ex u hu).symm, a3, ?_⟩
    rcases a4 with ⟨b1, b2, b3, b4⟩ | ⟨b1, b2, b3, b4, b5⟩
    · exact Or.inl ⟨b1, b2, b3, by rw [e34]; exact b4⟩
    · refine Or.inr ⟨b1, b2, b3, by rw [e34]; exact b4, fun i hi => ?_⟩
      rw [eB_x (show xP 45 (i + 1) / 4096 < 69 by unfold xP; omega), eB_x (show xP 46 (i + 1) / 4096 < 69 by unfold xP; omega)]
      exact b5 i hi
theorem crJ_read : crJ (memB [nat_lit 0]) (memB [nat_lit 0]) scQ = true := by decide +kernel
theorem kd_120 : (PG 120).2.2.2.2 = 1 := by decide +kernel
noncomputable def readR (a : Nat) : Bool := jRun (nat_lit 100000) (nat_lit 200) tXv tXv tMv tMv (nat_lit 120) (nat_lit 222) (memB [nat_lit 0]) (memB [nat_lit 0]) [] [] (dP (nat_lit 819200) (nat_lit 0) (nat_lit 4) a []) [.inl (dA (nat_lit 819200) (nat_lit 0) (nat_lit 4) a)] (fun x0 m0 pa x m => frJ scQ x0 m0 x m)
theorem q_read : allL 2 readR = true := by decide +kernel
theorem byN {x : Int32} (h1 : 32 ≤ x) (h2 : x ≤ 126) : x = Int32.ofNat x.toInt.toNat ∧ x.toInt.toNat < 127 := by
  rw [show (32 : Int32) = Int32.ofNat 32 from rfl, Int32.le_iff_toInt_le] at h1
  rw [show (126 : Int32) = Int32.ofNat 126 from rfl, Int32.le_iff_toInt_le] at h2
  simp only [Int32.toInt_ofNat', Int.bmod_def, show ((Int32.size : Nat) : Int) = 4294967296 from rfl] at h1 h2
  refine ⟨?_, by omega⟩
  rw [← Int32.toInt_inj]
  simp only [Int32.toInt_ofNat', Int.bmod_def, show ((Int32.size : Nat) : Int) = 4294967296 from rfl]
  omega
theorem op_read {l : Launch} {D : va_G} {cy : Nat → ClassId} {alX alM : Nat → Nat} : OpI l D cy alX alM 120 222 1 := by
  intro r as hI hlen
  obtain ⟨a0, rfl⟩ : ∃ a0, as = [a0] := by
    match as, hlen with
    | [a0], _ => exact ⟨a0, rfl⟩
  refine OpOk_uA [a0] ?_
  replace hI := Inv_uA (as := [a0]) hI
  have e0 : (uA r [a0]).1 819200 = a0 := uA_a 0
  generalize uA r [a0] = r at hI e0 ⊢
  obtain ⟨c0, hc0, hp0, hv0⟩ := dP_ok r 819200 (lo := 0) (n := 4) (Or.inr (by omega)) (by omega)
  rw [e0] at hv0
  by_cases hlo : c0 < 2
  · refine jOk l tXv_ok tXv_ok tMv_ok tMv_ok (cC_X r) (cC_M r) (hp0 _ sPa_nil) (fun _ _ _ => rfl) (fun _ _ _ => rfl) oX_nil oM_nil ?_ ?_ (allL_ok q_read c0 hlo) (fun x0 m0 pa x m hx0 hm0 hck hp hfx hfm _ _ => Inv_qv crJ_read hx0 hm0 hfx hfm hck hI)
    · simp only [List.map_cons, List.map_nil, sVal, hv0]
    · simp only [List.map_cons, List.map_nil, sVal, hv0]
  obtain ⟨q, rfl⟩ : ∃ k, c0 = k + 2 := ⟨c0 - 2, by omega⟩
  have ek : a0 = Int32.ofNat q := by rw [← hv0, dA_c (by omega)]
  subst ek
  have hq : q < 4 := by omega
  obtain ⟨c, hc, hcc, hcm⟩ := hI
  obtain ⟨⟨-, hn1, -⟩, hn2, -⟩ := CC_nd hc hcc
  obtain ⟨-, n1, n5⟩ := cd_tab c hc
  obtain ⟨zs, hzs, s1, s2, -⟩ := (show cT (nOf c) r from hcm 8 (by omega))
  obtain ⟨z, hz, t1, t2, t3⟩ := (show cP r from hcm 9 (by omega))
  obtain ⟨zw, w0, w1, w2, w3, wl, ww⟩ := (show cW r from hcm 10 (by omega))
  -- the bytes
  have hby : ∀ i, i < z → r.1 (xP 48 i) = Int32.ofNat (r.1 (xP 48 i)).toInt.toNat ∧ (r.1 (xP 48 i)).toInt.toNat < 127 := fun i hi => by
    obtain ⟨-, b1, b2⟩ := t3 i hi
    exact byN b1 b2
  obtain ⟨B, hB⟩ : ∃ B : Nat → Nat, ∀ i, i < z → r.1 (xP 48 i) = Int32.ofNat (B i) ∧ B i < 127 := ⟨fun i => (r.1 (xP 48 i)).toInt.toNat, hby⟩
  have hTX : TXt (nOf c) z B r := ⟨hn2, t2, fun i hi => (t3 i hi).1.trans (hB i hi).1⟩
  have hL5 : L5 r := wl
  have hW5 : W5 r 0 := fun i hi hci => by
    obtain ⟨k, k1, k2⟩ := ww (i / 6) (by omega)
    refine ⟨k, k1, ?_⟩
    rw [← k2]
    exact congrArg r.1 (by unfold mP; omega)
  have whE : ∀ (r1 r2 : sE) (T : txT), T.length ≤ 81 → WHX r1 T → WHM r2 T → whyE r1 r2 := fun r1 r2 T hT hx hm => ⟨T.length, hT, hx.1, hm.1, fun i hi => by
    obtain ⟨a1, a2⟩ := rwT_eq hm.2 hx.2 i hi
    rw [show mP 36 i = mP 36 0 + i by unfold mP; omega, show mP 37 i = mP 37 0 + i by unfold mP; omega, show xP 51 i = xP 51 0 + i by unfold xP; omega, show xP 52 i = xP 52 0 + i by unfold xP; omega]
    exact ⟨a1, a2⟩⟩
  refine ⟨rdMid (nOf c) z B q zs c r, fun rest => (c_rdX l hq hc hcc.1 n1 n5 hn1 hz t1 hB hzs s1).mono (fun v w h => h), fun v r1 hmid rest => ?_, fun v r1 hmid => Or.inl ⟨kd_120, ?_⟩⟩
  · refine (c_rdM (V := v) (Rt := fun r2 => Inv (eB r1 r2)) l hq hc hcc.2 n1 n5 hz (fun i hi => (hB i hi).2) hTX hW5 hL5 hzs s2 ?_).mono (fun v2 w2 h => h)
    rcases hmid with ⟨p, T, a1, a2, a3, a4, a5⟩ | ⟨T, a1, a2, a3, a4, a5⟩ | ⟨m, ra, a1, a2, a3, a4, a5, a6, a7⟩
    · refine Or.inl ⟨p, T, a1, a2, fun r2 hE hW => ?_⟩
      have hT : T.length ≤ 81 := by
        obtain ⟨σ, -, -, h80, rfl⟩ := a1
        simp
        omega
      obtain ⟨g1, g2⟩ := Inv_rd hc hcc hcm a3 hE.1 a4 hE.2.1 (whE r1 r2 T hT a5 hW) hE.2.2.1 hE.2.2.2
      exact ⟨c, hc, g1, g2⟩
    · refine Or.inr (Or.inl ⟨T, a1, a2, fun r2 hE hW => ?_⟩)
      obtain ⟨g1, g2⟩ := Inv_rd hc hcc hcm a3 hE.1 a4 hE.2.1 (whE r1 r2 T a1.1 a5 hW) hE.2.2.1 hE.2.2.2
      exact ⟨c, hc, g1, g2⟩
    · refine Or.inr (Or.inr ⟨m, a1, a2, fun rm r2 hE hA hP hC => ?_⟩)
      have hwy : whyE ra rm := ⟨zw, w0, (a5 _ (Or.inl rfl)).trans w1, (kpR hA (vM_0 49 (by simp)) ⟨by first | omega | (unfold mP; omega), by first | omega | (unfold mP; omega), by first | omega | (unfold mP; omega), by first | omega | (unfold mP; omega), by first | omega | (unfold mP; omega), by first | omega | (unfold mP; omega), by first | omega | (unfold mP; omega), by first | omega | (unfold mP; omega), by first | omega | (unfold mP; omega), trivial⟩).trans w2, fun i hi => by
        obtain ⟨b1, b2⟩ := w3 i hi
        rw [kpR hA (vM_r.2.1 i (by omega)).2.2.1 ⟨by first | omega | (unfold mP; omega), by first | omega | (unfold mP; omega), by first | omega | (unfold mP; omega), by first | omega | (unfold mP; omega), by first | omega | (unfold mP; omega), by first | omega | (unfold mP; omega), by first | omega | (unfold mP; omega), by first | omega | (unfold mP; omega), by first | omega | (unfold mP; omega), trivial⟩, kpR hA (vM_r.2.1 i (by omega)).2.2.2 ⟨by first | omega | (unfold mP; omega), by first | omega | (unfold mP; omega), by first | omega | (unfold mP; omega), by first | omega | (unfold mP; omega), by first | omega | (unfold mP; omega), by first | omega | (unfold mP; omega), by first | omega | (unfold mP; omega), by first | omega | (unfold mP; omega), by first | omega | (unfold mP; omega), trivial⟩, a5 (xP 51 i) (Or.inr (Or.inl (by unfold xP; omega))), a5 (xP 52 i) (Or.inr (Or.inr (by unfold xP; omega)))]
        exact ⟨b1, b2⟩⟩
      obtain ⟨g1, g2⟩ := Inv_rd hc hcc hcm a3 hE.1 a4 hE.2.1 hwy hE.2.2.1 hE.2.2.2
      have h44 : (eB ra rm).1 (xP 44 0) = Int32.ofNat zs := (eB_x (by unfold xP; omega)).trans ((kpR a3 (show isV 0 68 tXv (xP 44 0) = true by decide +kernel) ⟨by first | omega | (unfold xP; omega), by first | omega | (unfold xP; omega), trivial⟩).trans s1)
      exact Inv_pu hc g2 hq hzs h44 a1.1 (PuX_e hq hzs a6) hP (fun id hid u hu hv => (eB_m (by have := (isV_ok hv).1; omega)).symm) a7 hC
  · rcases hmid with ⟨p, T, -, h, -⟩ | ⟨T, -, h, -⟩ | ⟨m, ra, -, h, -⟩ <;> exact ⟨_, h⟩
end RF
