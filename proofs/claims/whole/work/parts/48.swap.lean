/-! 48: swap -/
def uV (r : sE) (w : Nat) (x : Int32) : sE := (fun v => if v = 819290 + w then x else r.1 v, r.2)
theorem uV_v {r : sE} {w : Nat} {x : Int32} : (uV r w x).1 (819290 + w) = x := by
  unfold uV
  simp only [if_true]
theorem uV_lo {r : sE} {w : Nat} {x : Int32} {v : Nat} (h : v < 819290) : (uV r w x).1 v = r.1 v := by
  unfold uV
  simp only [if_neg (show ¬ v = 819290 + w by omega)]
theorem tW_agree {r r2 : sE} {al : Nat → Nat} {cy : Nat → ClassId} {rest : va_W} {b n : Nat} {t : Nat → sC} (hb : b + n ≤ 200) (hcan : ∀ i, i < n → (t i).1 ≤ 6 ∧ fitC (b + i) (t i) (t i) = true) (h : ∀ v, v < 819200 → r2.1 v = r.1 v ∧ r2.2 v = r.2 v) : tW r2 al cy rest n t = tW r al cy rest n t := by
  unfold tW
  congr 1
  apply List.map_congr_left
  intro i hi
  rw [List.mem_range] at hi
  rw [canC_ok (hcan i hi).2 (fun j hj => h _ (by omega))]
theorem PuX_agree {r r' r1 : sE} {z q : Nat} {o : List Nat} (hq : q < 4) (h : ∀ v, v < 819200 → r'.1 v = r.1 v) (hz : z ≤ 10) (hp : PuX z q o r' r1) : PuX z q o r r1 := by
  have e : ∀ i j, i < 68 → j < 4096 → r'.1 (xP i j) = r.1 (xP i j) := fun i j hi hj => h _ (by unfold xP; omega)
  have ev : ∀ u, isV 0 68 tXv u = true → r'.1 u = r.1 u := fun u hu => h _ (by have := (isV_ok hu).2.1; omega)
  have e34 := e 34 q (by omega) (by omega)
  rcases hp with ⟨a1, a2⟩ | ⟨a1, a2, a3, a4⟩
  · exact Or.inl ⟨e34.symm.trans a1, fun u hu => (a2 u hu).trans (ev u hu)⟩
  · refine Or.inr ⟨by rw [e34] at a1; exact a1, fun u hu hc => (a2 u hu hc).trans (ev u hu), a3, ?_⟩
    rcases a4 with ⟨c1, c2, c3, c4⟩ | ⟨c1, c2, c3, c4, c5⟩
    · exact Or.inl ⟨c1, c2, c3, c4.trans e34⟩
    · exact Or.inr ⟨c1, c2, c3, c4.trans e34, fun i hi => ⟨(c5 i hi).1.trans (e 45 (i + 1) (by omega) (by omega)), (c5 i hi).2.trans (e 46 (i + 1) (by omega) (by omega))⟩⟩
/-- no constant of a shape lies in the cells of a push -/
theorem crP_X : allL 18 (fun c => crC (nat_lit 0) (tX c) KXm (fun _ => true) (nat_lit 68)) = true := by decide +kernel
noncomputable def chNN (u : Nat) : Bool := Bool.not (memB [nat_lit 282625, nat_lit 282628] u)
theorem crP_M : allL 18 (fun c => crC (nat_lit 69) (tM c) KMb1 chNN (nat_lit 45)) = true := by decide +kernel
theorem crP_M0 : allL 18 (fun c => crC (nat_lit 69) (tM c) KMb0 chNN (nat_lit 45)) = true := by decide +kernel
theorem chM_NN : allL 11 (fun z => allL 4 (fun q => Bool.and (Bool.not (chM z q 282625)) (Bool.not (chM z q 282628)))) = true := by decide +kernel
theorem chNN_of {Ch : Nat → Bool} (h1 : Ch 282625 = false) (h2 : Ch 282628 = false) : ∀ u, Ch u = true → chNN u = true := fun u hu => by
  cases h : chNN u with
  | true => rfl
  | false =>
    exfalso
    have h3 : Bool.or (Nat.beq (nat_lit 282625) u) (Bool.or (Nat.beq (nat_lit 282628) u) false) = true := by
      unfold chNN at h
      have : memB [nat_lit 282625, nat_lit 282628] u = true := by
        cases hm : memB [nat_lit 282625, nat_lit 282628] u with
        | true => rfl
        | false => rw [hm] at h; cases h
      exact this
    simp only [Bool.or_eq_true] at h3
    rcases h3 with h3 | h3 | h3
    · have := Nat.eq_of_beq_eq_true h3
      rw [← this] at hu
      rw [h1] at hu
      cases hu
    · have := Nat.eq_of_beq_eq_true h3
      rw [← this] at hu
      rw [h2] at hu
      cases hu
    · cases h3
/-- the class' tail: makeOtherwise, then its answer -/
theorem x_tail {l : Launch} {D : va_G} {cy : Nat → ClassId} {al : Nat → Nat} {rest : va_W} {k d pc nx q z c : Nat} {r : sE} {L : sL} {o : List Nat} {Rt : Option Value → va_W → Prop} {At : gAt} (hFC : gFC l D cy al k d Rt At) (hd : 7 ≤ d) (hrow : gRow k pc nx 126) (hret : ∀ n, n < 11 → sx PG 10 d (PG k) (fun _ => false) (fun _ _ _ _ _ => false) (fun v _ m => Bool.and (eqL eqC m []) (eqO v (some (.inl (.natCast n))))) nx L [.inl (.natCast n)] [] [] = true)
    (hq : q < 4) (hz : z ≤ 10) (h44 : r.1 (xP 44 0) = Int32.ofNat z) (ho : o ∈ ORDS) (hc : c < 18) (hcC : cC 0 68 (tX c) r)
    (hR : ∀ r1, PuX z q o r r1 → cC 0 68 (tX c) r1 → Rt (some (.int (Int32.ofNat (lenO o)))) (tW r1 al cy rest 68 tXv)) :
    At pc (L.map (Option.map (sVal r al))) [.int (Int32.ofNat (ocode o)), .int (Int32.ofNat q), .ref (al 0)] (tW r al cy rest 68 tXv) := by
  have es : ([.int (Int32.ofNat (ocode o)), .int (Int32.ofNat q), .ref (al 0)] : List Value) = ([.ref (al 0), .int (Int32.ofNat q), .int (Int32.ofNat (ocode o))] : List Value).reverse ++ [] := rfl
  have hl : lenO o ≤ 10 := Nat.le_of_ble_eq_true (lAll_ok lenO_tab o ho)
  have hb : (uV r 0 (Int32.ofNat (ocode o))).1 vB = Int32.ofNat (ocode o) := uV_v
  have ag : ∀ v, v < 819200 → (uV r 0 (Int32.ofNat (ocode o))).1 v = r.1 v ∧ (uV r 0 (Int32.ofNat (ocode o))).2 v = r.2 v := fun v hv => ⟨uV_lo (by omega), rfl⟩
  have hmk := c_mk (D := D) (cy := cy) (al := al) (rest := rest) (r := uV r 0 (Int32.ofNat (ocode o))) (d := d - 1) l (by omega) hq hz ((ag _ (by decide)).1.trans h44) ho hb
  rw [tW_agree (by omega) tXv_can ag] at hmk
  obtain ⟨d1, rfl⟩ : ∃ d1, d = d1 + 1 := ⟨d - 1, by omega⟩
  rw [es]
  refine hFC.2 pc nx 126 d1 _ _ [] _ _ hrow rfl (by decide) rfl (gRecv_t (by omega) rfl rfl) hmk (fun v w2 h => ?_)
  obtain ⟨rfl, x0, pa, x, h1, h2, h3, h4, rfl⟩ := h
  have kr := g_ret (v := some (.int (Int32.ofNat (lenO o)))) hFC (r := r) (L := L) (w := tW (eOf 0 (uV r 0 (Int32.ofNat (ocode o))) x) al cy rest 68 tXv) (hret (lenO o) (by omega)) (fun v0 h0 => by
    rw [eqO_ok h0]
    show some (Value.int (sI r (.natCast (lenO o)))) = _
    rw [sI_c]) (hR _ (PuX_agree hq (fun v hv => (ag v hv).1) hz (PuX_of hq hz hb h1 h2 h3 h4)) ?_)
  · rw [show List.map (sVal r al) [.inl (.natCast (lenO o))] = [Value.int (Int32.ofNat (lenO o))] by simp only [List.map_cons, List.map_nil, sVal, sI_c]] at kr
    exact kr
  · have hcC' : cC 0 68 (tX c) (uV r 0 (Int32.ofNat (ocode o))) := fun i hi j k => by
      have h5 : ∀ y, (tX c i).2.2[j]? = some y → j < 4096 := fun y hy => by
        have k3 := (tX_ok hc i hi).1.2
        unfold fitC at k3
        simp only [Bool.and_eq_true] at k3
        have g4 : (tX c i).2.2.length ≤ 4096 := by rw [← sLn_ok]; exact Nat.le_of_ble_eq_true k3.2.2.2.1
        exact Nat.lt_of_lt_of_le (List.getElem?_eq_some_iff.mp hy).1 g4
      exact ⟨fun hy => by have := h5 _ hy; rw [(ag _ (by omega)).1]; exact (hcC i hi j k).1 hy, fun hy => by have := h5 _ hy; rw [(ag _ (by omega)).2]; exact (hcC i hi j k).2 hy⟩
    have hfr : frM 0 (fun _ => true) x0 0 x = true := by
      unfold ckMk at h4
      rw [Bool.or_eq_true, Bool.and_eq_true] at h4
      rcases h4 with h4 | h4
      · exact frM_mono (fun _ _ => rfl) _ _ _ h4.2
      · simp only [Bool.and_eq_true] at h4
        exact frM_mono (fun _ _ => rfl) _ _ _ h4.1.2
    exact crC_ok (allL_ok crP_X c hc) (tX_ok hc) tXv_ok (cv_gen (tX_ok hc)) h1 h3 hfr hcC'
/-- the model's tail: becomes, then its answer -/
theorem m_tail {l : Launch} {D : va_G} {cy : Nat → ClassId} {al : Nat → Nat} {rest : va_W} {k d pc nx q z c n : Nat} {r : sE} {r0 : sE} {L : sL} {o : List Nat} {Rt : Option Value → va_W → Prop} {At : gAt} (hFC : gFC l D cy al k d Rt At) (hd : 7 ≤ d) (hrow : gRow k pc nx 160) (hret : ∀ n, n < 11 → sx PG 10 d (PG k) (fun _ => false) (fun _ _ _ _ _ => false) (fun v _ m => Bool.and (eqL eqC m []) (eqO v (some (.inl (.natCast n))))) nx L [.inl (.natCast n)] [] [] = true)
    (hq : q < 4) (hz : z ≤ 10) (h17 : r.1 (mP 0 17) = Int32.ofNat z) (hn : 1 ≤ n) (hn5 : n ≤ 5) (hnr : r.1 (mP 0 1) = Int32.ofNat n) (ho : o ∈ ordN n) (hm : hasO r 14 o) (hc : c < 18) (hcC : cC 69 45 (tM c) r)
    (hR : ∀ r2, PuM z q o r r2 → cC 69 45 (tM c) r2 → Rt (some (.int (Int32.ofNat (lenO o)))) (tW r2 al cy rest 45 tMv)) :
    At pc (L.map (Option.map (sVal r0 al))) [.int (Int32.ofNat q), .ref (al 0)] (tW r al cy rest 45 tMv) := by
  have es : ([.int (Int32.ofNat q), .ref (al 0)] : List Value) = ([.ref (al 0), .int (Int32.ofNat q)] : List Value).reverse ++ [] := rfl
  have hl : lenO o ≤ 10 := Nat.le_of_ble_eq_true (lAll_ok lenO_tab o (ordN_in ho))
  obtain ⟨d1, rfl⟩ : ∃ d1, d = d1 + 1 := ⟨d - 1, by omega⟩
  rw [es]
  refine hFC.2 pc nx 160 d1 _ _ [] _ _ hrow rfl (by decide) rfl (gRecv_t (by omega) rfl rfl) (c_bc (rest := rest) l (by omega) hq hz h17 hn hn5 hnr ho hm) (fun v w2 h => ?_)
  obtain ⟨rfl, h⟩ := h
  have fin : ∀ r2, PuM z q o r r2 → cC 69 45 (tM c) r2 → At nx (L.map (Option.map (sVal r0 al))) ((some (.int (Int32.ofNat (lenO o))) : Option Value).toList ++ []) (tW r2 al cy rest 45 tMv) := fun r2 g1 g2 => by
    have kr := g_ret (v := some (.int (Int32.ofNat (lenO o)))) hFC (r := r0) (L := L) (w := tW r2 al cy rest 45 tMv) (hret (lenO o) (by omega)) (fun v0 h0 => by
      rw [eqO_ok h0]
      show some (Value.int (sI r0 (.natCast (lenO o)))) = _
      rw [sI_c]) (hR r2 g1 g2)
    rw [show List.map (sVal r0 al) [.inl (.natCast (lenO o))] = [Value.int (Int32.ofNat (lenO o))] by simp only [List.map_cons, List.map_nil, sVal, sI_c]] at kr
    exact kr
  rcases h with ⟨h1, rfl⟩ | ⟨h1, m0, m, h2, h3, h4, rfl⟩
  · exact fin r (Or.inl ⟨fun i hi => (h1 i hi).trans (hm i hi), fun _ _ => rfl⟩) hcC
  · refine fin _ (PuM_of hq hz hm h1 h2 h3 h4) ?_
    have h5 := h4
    unfold ckBc at h5
    rw [Bool.and_eq_true] at h5
    have t := allL_ok (allL_ok chM_NN z (by omega)) q hq
    rw [Bool.and_eq_true] at t
    exact crC_ok (allL_ok crP_M c hc) (tM_ok hc) tMv_ok (cv_gen (tM_ok hc)) h2 h3 (frM_mono (chNN_of (by simpa using t.1) (by simpa using t.2)) _ _ _ h5.1) hcC
