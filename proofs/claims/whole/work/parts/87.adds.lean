/-! 87: the model: adds, by contract (by wip/whole/mk87.py) -/
def adG (n : Nat) (col row : Nat → Nat) (q : Int) (m i : Nat) (tr : List Nat) (r : sE) (N : Nat → Int) (al : Nat → Nat) (cy : Nat → ClassId) (rest : va_W) (v : Option Value) (w : va_W) : Prop := v = none ∧ ∃ r2, kpC chA 69 45 tMv r r2 ∧ (∀ k, k < tr.length → r2.1 (mP 23 (1 + k)) = r.1 (mP 23 (1 + k))) ∧ NF (adN n col row q m i tr N) r2 ∧ w = tW r2 al cy rest 45 tMv
theorem sg_ok (o : List Nat) : Int32.ofNat (sgN (lenO o)) = Int32.ofInt (sgI o) := by
  unfold sgN sgI
  generalize Nat.mod (lenO o) (nat_lit 2) = z
  cases z with
  | zero => rfl
  | succ z =>
    show Int32.ofNat 4294967295 = Int32.ofInt (-1)
    decide
theorem gd1 {a b : List Nat} {k : Nat} (h : k < a.length) : (appL a b).getD k 0 = a.getD k 0 := by
  rw [appL_eq, List.getD_eq_getElem?_getD, List.getD_eq_getElem?_getD, List.getElem?_append_left h]
theorem gd2 {a b : List Nat} {k : Nat} (h : a.length ≤ k) : (appL a b).getD k 0 = b.getD (k - a.length) 0 := by
  rw [appL_eq, List.getD_eq_getElem?_getD, List.getD_eq_getElem?_getD, List.getElem?_append_right h]
theorem rest_tab : ∀ n, n < 5 → ∀ k, k < 5 → n + 1 ≤ k → (restO (n + 1)).getD (k - (n + 1)) 0 = k + 1 := by decide +kernel
theorem NF_of {Ch : Nat → Bool} {N : Nat → Int} {r r1 : sE} (hch : ∀ j, j < 3125 → Ch (mP 20 j) = false) (h : kpC Ch 69 45 tMv r r1) (hN : NF N r) : NF N r1 := fun j hj => by
  have hv : isV 69 45 tMv (mP 20 j) = true := by
    have := allL_ok num_V j hj
    rw [show mP 20 j = Nat.add (nat_lit 364544) j by show 4096 * (69 + 20) + j = 364544 + j; omega]
    exact this
  rw [h.1 _ hv (hch j hj)]
  exact hN j hj
theorem ch23_num : ∀ j, j < 3125 → ch23 (mP 20 j) = false := fun j hj => by
  show Nat.beq (mP 20 j / 4096) 92 = false
  rw [show mP 20 j / 4096 = 89 by unfold mP; omega]
  rfl
theorem ch23_A : ∀ u, chA u = false → ch23 u = false := fun u h => by
  have h2 : Bool.or (Nat.beq 89 (u / 4096)) (Bool.or (Nat.beq 92 (u / 4096)) false) = false := h
  cases hb : ch23 u with
  | false => rfl
  | true =>
    have e : u / 4096 = 92 := Nat.eq_of_beq_eq_true hb
    rw [e] at h2
    cases h2
theorem chA_num {j : Nat} (hj : j < 3125) : chA (mP 20 j) = true := by
  show Bool.or (Nat.beq 89 (mP 20 j / 4096)) (Bool.or (Nat.beq 92 (mP 20 j / 4096)) false) = true
  rw [show mP 20 j / 4096 = 89 by unfold mP; omega]
  rfl
theorem kpC_rW {r : sE} {u : Nat} {x : Int32} {Ch : Nat → Bool} (hu : Ch u = true) (hlo : u < 819200) : kpC Ch 69 45 tMv r (rW r u x) := ⟨fun v _ hv => by
  show (if v = u then x else r.1 v) = _
  rw [if_neg (fun e => by rw [e, hu] at hv; cases hv)], fun _ _ _ => rfl, fun v h1 h2 => ⟨by
  show (if v = u then x else r.1 v) = _
  rw [if_neg (by omega)], rfl⟩⟩
section AD
variable {D : va_G} {cy : Nat → ClassId} {al : Nat → Nat} {rest : va_W} {n : Nat} {col row : Nat → Nat} {q : Int}
theorem adds_base (l : Launch) (hn : 1 ≤ n) (hn5 : n ≤ 5) {tr : List Nat} {r : sE} {N : Nat → Int} (htl : tr.length = n) (hx : ∀ x ∈ tr, 1 ≤ x ∧ x ≤ n) (hnd : tr.Nodup) (hA : AF n col row q r) (hT : TF tr r) (hN : NF N r) : gMet l D cy al 10 172 (tW r al cy rest 45 tMv) [.ref (al 0), .int (Int32.ofNat (n + 1))] (adG n col row q 0 (n + 1) tr r N al cy rest) := by
  have ho := tr_in hn hn5 htl hx hnd
  have hn1 := hn
  obtain ⟨n, rfl⟩ : ∃ k, n = k + 1 := ⟨n - 1, by omega⟩
  have key := gMet_ofA (l := l) (D := D) (cy := cy) (al := al) (d := 10) (k := 172) (w := tW r al cy rest 45 tMv) (r := r) (G := adG (n + 1) col row q 0 (n + 1 + 1) tr r N al cy rest) (allL_ok q_aE0 (n + 2) (by omega)) (fun At hFC hAR => ?_)
  · have ea : List.map (sVal r al) [.inr (.inr (some (nat_lit 0))), .inl (.natCast (n + 2))] = [.ref (al 0), .int (Int32.ofNat (n + 1 + 1))] := by
      simp only [List.map_cons, List.map_nil, sVal, sI_c]
    rw [ea] at key
    exact key
  refine g_seg1C (Ch := ch23) hFC (r := r) (by omega) tMv_ok (cC_M _) sPa_nil (oM_cons (by rw [sI_c]; exact hA.1) oM_nil) (allL_ok q_aB1 n (by omega)) (fun m0 pa m r1 h1 h2 h3 hk1 => ?_) (fun m0 v pa m r1 h1 => nomatch h1)
  have hk1A : kpC chA 69 45 tMv r r1 := kpC_weak ch23_A hk1
  have hA1 := AF_kp hn5 hk1A hA
  have hN1 : NF N r1 := NF_of ch23_num hk1 hN
  have hoe : ∀ k, k < n + 1 → (appL tr (restO (n + 1))).getD k 0 = tr.getD k 0 := fun k hk => gd1 (by omega)
  have hO1 : hasO r1 23 (appL tr (restO (n + 1))) := fun k hk => by
    have hE := isE_ok (b := 69) (r := r) (show Nat.succ k < 4096 by omega) (allL_ok h1 k hk)
    rw [h3, show mP 23 (1 + k) = 4096 * (69 + 23) + Nat.succ k by unfold mP; omega]
    refine hE.trans ?_
    cases hb : Nat.ble k n with
    | true =>
      have hk2 : k ≤ n := Nat.le_of_ble_eq_true hb
      show sI r (.var (376833 + k)) = _
      rw [sI_v, hoe k (by omega), ← hT k (by omega)]
      exact congrArg r.1 (show 376833 + k = mP 23 (1 + k) by unfold mP; omega)
    | false =>
      have hk2 : ¬ k ≤ n := fun h => by rw [Nat.ble_eq_true_of_le h] at hb; cases hb
      show sI r (.natCast (k + 1)) = _
      rw [sI_c, gd2 (by omega), htl, rest_tab n (by omega) k hk (by omega)]
  generalize hO : appL tr (restO (n + 1)) = o at ho hO1 hoe
  have hcd : cdV (n + 1) row o n < 3125 := by
    have g1 := cdV_lt hn1 hn5 ho (fun p a b => (hA.2.2.2 p a b).2) n (by omega)
    have g2 : 5 ^ (n + 1) ≤ 5 ^ 5 := Nat.pow_le_pow_right (by omega) (by omega)
    have g3 : (5 : Nat) ^ 5 = 3125 := by decide
    omega
  have hcode := c_cd l (D := D) (cy := cy) (al := al) (rest := rest) (d := 9) (by omega) hn1 hn5 hA1.1 ho hO1 (fun p a b => (hA1.2.2.2 p a b).1)
  rw [show n + 1 - 1 = n by omega] at hcode
  generalize hcd0 : cdV (n + 1) row o n = cd at hcd hcode
  have hw : ∀ l, tW (uM r1 l) al cy rest 45 tMv = tW r1 al cy rest 45 tMv := fun l => tW_uM (by omega) tMv_can
  generalize hU : uM r1 [Int32.ofNat cd, Int32.ofInt (N cd)] = rU
  have hsame : sameA r1 rU := by rw [← hU]; exact sA_uM
  have hwU : tW rU al cy rest 45 tMv = tW r1 al cy rest 45 tMv := by rw [← hU]; exact hw _
  have E0 : sI rU (.var (nat_lit 819290)) = Int32.ofNat cd := by rw [← hU, sI_v]; exact uM_v 0
  have E1 : sI rU (.var (nat_lit 819291)) = Int32.ofInt (N cd) := by rw [← hU, sI_v]; exact uM_v 1
  have EO : sI rU (.var (nat_lit 282652)) = Int32.ofInt q := by
    rw [← hU, sI_v, uM_lo (by decide)]
    exact hA1.2.1
  refine At_env hsame rfl rfl ?_
  refine g_callS (r := rU) (as := [.inr (.inr (some (nat_lit 0)))]) (st := [.inr (.inr (some (nat_lit 20)))]) (v0 := some (.inl (.var (nat_lit 819290)))) hFC (nx := 41) (mi := 171) ⟨_, _, rfl, rfl⟩ rfl rfl (gRecv_t (by omega) rfl rfl) (hcode.mono (fun v w h => ⟨by rw [h.1]; show _ = some (Value.int (sI rU (.var (nat_lit 819290)))); rw [E0], h.2⟩)) ?_
  refine g_pure hFC (r := rU) sPa_nil (allL_ok q_a41 n (by omega)) (fun pc L st hk => ?_) (fun v hk => nomatch hk)
  obtain ⟨rfl, rfl, rfl⟩ := kAt_ok hk
  rw [show List.map (sVal rU al) [.inl (.var (nat_lit 819290)), .inr (.inr (some (nat_lit 20))), .inl (.var (nat_lit 819290)), .inr (.inr (some (nat_lit 20)))] = .int (Int32.ofNat cd) :: .ref (al 20) :: [.int (Int32.ofNat cd), .ref (al 20)] by simp only [List.map_cons, List.map_nil, sVal, E0]]
  refine hAR.1 42 43 cd 3125 20 (al 20) _ _ _ _ ⟨_, rfl⟩ hcd (by omega) num_w ?_
  rw [show sInt r1 (tMv 20).2.2[cd]? = Int32.ofInt (N cd) from (num_at hcd).trans (hN1 cd hcd)]
  have g43 := g_segS hFC (r := rU) (al := al) (cy := cy) (rest := rest) tMv_ok (cC_M _) sPa_nil oM_nil (allL_ok q_a43 n (by omega)) (fun pc L st pa hk hp => ?_) (fun v pa hk => nomatch hk)
  · rw [show List.map (sVal rU al) [.inl (.var (nat_lit 819291)), .inl (.var (nat_lit 819290)), .inr (.inr (some (nat_lit 20)))] = [.int (Int32.ofInt (N cd)), .int (Int32.ofNat cd), .ref (al 20)] by simp only [List.map_cons, List.map_nil, sVal, E0, E1], hwU] at g43
    exact g43
  obtain ⟨rfl, rfl, rfl⟩ := kAt_ok hk
  rw [hwU]
  have hl10 : lenO o ≤ 10 := Nat.le_of_ble_eq_true (lAll_ok lenO_tab o (ordN_in ho))
  refine g_callS (r := rU) (as := [.inr (.inr (some (nat_lit 0))), .inr (.inr (some (nat_lit 23)))]) (st := [.inl (.natCast (nat_lit 2)), .inl (.natCast (nat_lit 1)), .inl (.var (nat_lit 282652)), .inl (.var (nat_lit 819291)), .inl (.var (nat_lit 819290)), .inr (.inr (some (nat_lit 20)))]) (v0 := some (.inl (.natCast (lenO o)))) hFC (nx := 57) (mi := 157) ⟨_, _, rfl, rfl⟩ rfl rfl (gRecv_t (by omega) rfl rfl) ((c_len23 l (by omega) hn1 hn5 hA1.1 ho hO1).mono (fun v w h => ⟨by rw [h.1]; show _ = some (Value.int (sI rU (.natCast (lenO o)))); rw [sI_c], h.2⟩)) ?_
  refine g_pure hFC (r := rU) sPa_nil (allL_ok (allL_ok q_a57 n (by omega)) (lenO o) (by omega)) (fun pc L st hk => ?_) (fun v hk => nomatch hk)
  obtain ⟨rfl, rfl, rfl⟩ := kAt_ok hk
  have EX : sI rU (eAd (lenO o)) = Int32.ofInt (N cd + q * sgI o) := by
    show (sD rU (.pow (.mul (.var 819291) (.pow (.mul (.var 282652) (.natCast (sgN (lenO o)))) 2)) 0)).1 = _
    rw [sD_b]
    show sI rU (.var (nat_lit 819291)) + (sD rU (.pow (.mul (.var 282652) (.natCast (sgN (lenO o)))) 2)).1 = _
    rw [sD_b]
    show sI rU (.var (nat_lit 819291)) + sI rU (.var (nat_lit 282652)) * sI rU (.natCast (sgN (lenO o))) = _
    rw [E1, EO, sI_c, sg_ok, ← Int32.ofInt_mul, ← Int32.ofInt_add]
  rw [show List.map (sVal rU al) [.inl (eAd (lenO o)), .inl (.var (nat_lit 819290)), .inr (.inr (some (nat_lit 20)))] = .int (Int32.ofInt (N cd + q * sgI o)) :: .int (Int32.ofNat cd) :: .ref (al 20) :: [] by simp only [List.map_cons, List.map_nil, sVal, E0, EX]]
  refine hAR.2 63 64 cd 3125 20 (al 20) _ _ _ _ _ ⟨_, rfl⟩ hcd (by omega) num_w ?_
  rw [num_st hcd]
  refine g_ret (v := none) hFC (r := rU) (w := tW (rW r1 (mP 20 cd) (Int32.ofInt (N cd + q * sgI o))) al cy rest 45 tMv) (allL_ok q_a64 n (by omega)) (fun v0 h0 => by rw [eqO_ok h0]; rfl) ?_
  refine ⟨rfl, _, kpC_trans hk1A (kpC_rW (chA_num hcd) (by unfold mP; omega)), fun k hk => ?_, fun j hj => ?_, rfl⟩
  · show (if mP 23 (1 + k) = mP 20 cd then _ else r1.1 (mP 23 (1 + k))) = _
    rw [if_neg (by unfold mP; omega), hO1 k (by omega), hoe k (by omega), hT k hk]
  · show (if mP 20 j = mP 20 cd then Int32.ofInt (N cd + q * sgI o) else r1.1 (mP 20 j)) = Int32.ofInt (adB (n + 1) row q (appL tr (restO (n + 1))) N j)
    rw [hO]
    show _ = Int32.ofInt (nuU N (cdV (n + 1) row o n) (N (cdV (n + 1) row o n) + q * sgI o) j)
    rw [hcd0]
    by_cases hjc : j = cd
    · subst hjc
      rw [if_pos rfl]
      show _ = Int32.ofInt (Bool.rec (motive := fun _ => Int) (N j) (N j + q * sgI o) (Nat.beq j j))
      rw [show Nat.beq j j = true from Nat.beq_refl j]
    · rw [if_neg (by unfold mP; omega)]
      show _ = Int32.ofInt (Bool.rec (motive := fun _ => Int) (N j) (N cd + q * sgI o) (Nat.beq j cd))
      rw [show Nat.beq j cd = false by
        cases hb : Nat.beq j cd with
        | false => rfl
        | true => exact absurd (Nat.eq_of_beq_eq_true hb) hjc]
      exact hN1 j hj
theorem ofNat_inj5 {a b : Nat} (ha : a ≤ 5) (hb : b ≤ 5) (h : Int32.ofNat a = Int32.ofNat b) : a = b := by
  have := congrArg Int32.toInt h
  simp only [Int32.toInt_ofNat', Int.bmod_def, show ((Int32.size : Nat) : Int) = 4294967296 from rfl] at this
  omega
theorem chT_A {i : Nat} (hi : i < 6) : ∀ u, chA u = false → chT i u = false := fun u h => by
  cases hb : chT i u with
  | false => rfl
  | true =>
    have e : u = 376832 + i := Nat.eq_of_beq_eq_true hb
    have h2 : Bool.or (Nat.beq 89 (u / 4096)) (Bool.or (Nat.beq 92 (u / 4096)) false) = false := h
    rw [show u / 4096 = 92 by omega] at h2
    cases h2
theorem chT_num (i : Nat) (hi : i < 6) : ∀ j, j < 3125 → chT i (mP 20 j) = false := fun j hj => by
  cases hb : chT i (mP 20 j) with
  | false => rfl
  | true =>
    have e : mP 20 j = 376832 + i := Nat.eq_of_beq_eq_true hb
    unfold mP at e
    omega
theorem LA_eq {i v : Nat} {x : sE} {a b : Int32} : (LA i (v + 2)).map (Option.map (sVal (uM x [a, b]) al)) = [some (.ref (al 0)), some (.int (Int32.ofNat i)), some (.int (Int32.ofNat (v + 2))), some (.int a), some (.int b)] := by
  show [some (Value.ref (al 0)), some (.int (sI _ (.natCast i))), some (.int (sI _ (.natCast (v + 2)))), some (.int (sI _ (.var (819290 + 0)))), some (.int (sI _ (.var (819290 + 1))))] = _
  simp only [sI_c, sI_v, uM_v]
  rfl
theorem LAs_eq {i v s : Nat} {x : sE} : (LAs i v s).map (Option.map (sVal x al)) = [some (.ref (al 0)), some (.int (Int32.ofNat i)), some (.int (Int32.ofNat v)), some (.int (Int32.ofNat s)), some (.int (Int32.ofNat i))] := by
  simp only [LAs, List.map_cons, List.map_nil, Option.map_some, sVal, sI_c]
theorem TF_pl : ∀ k, k < 5 → isV 69 45 tMv (mP 23 (1 + k)) = true := by decide +kernel
theorem c_adds (l : Launch) (hn : 1 ≤ n) (hn5 : n ≤ 5) : ∀ (m i : Nat) (tr : List Nat) (r : sE) (N : Nat → Int), i + m = n + 1 → tr.length + 1 = i → (∀ x ∈ tr, 1 ≤ x ∧ x ≤ n) → tr.Nodup → AF n col row q r → TF tr r → NF N r → gMet l D cy al (10 + m) 172 (tW r al cy rest 45 tMv) [.ref (al 0), .int (Int32.ofNat i)] (adG n col row q m i tr r N al cy rest) := by
  intro m
  induction m with
  | zero =>
    intro i tr r N him htl hx hnd hA hT hN
    obtain rfl : i = n + 1 := by omega
    exact adds_base l hn hn5 (by omega) hx hnd hA hT hN
  | succ m ih =>
    intro i tr r N him htl hx hnd hA hT hN
    obtain ⟨i, rfl⟩ : ∃ k, i = k + 1 := ⟨i - 1, by omega⟩
    have hnn : n = i + m + 1 := by omega
    have hi5 : i + m < 5 := by omega
    have htl2 : tr.length = i := by omega
    have key := gMet_ofA (l := l) (D := D) (cy := cy) (al := al) (d := 10 + (m + 1)) (k := 172) (w := tW r al cy rest 45 tMv) (r := r) (G := adG n col row q (m + 1) (i + 1) tr r N al cy rest) (allL_ok q_aE0 (i + 1) (by omega)) (fun At hFC hAR => ?_)
    · have ea : List.map (sVal r al) [.inr (.inr (some (nat_lit 0))), .inl (.natCast (i + 1))] = [.ref (al 0), .int (Int32.ofNat (i + 1))] := by
        simp only [List.map_cons, List.map_nil, sVal, sI_c]
      rw [ea] at key
      exact key
    have nov : ∀ r', kpC chA 69 45 tMv r r' → r'.1 (mP 0 1) = sI r' (.natCast (Nat.succ (Nat.add i m))) := fun r' hk => by
      rw [sI_c, (AF_kp hn5 hk hA).1, hnn]
      rfl
    have head : ∀ (c v : Nat) (r' : sE) (N' : Nat → Int) (so k : Int32), v + 1 + c = n + 1 → kpC chA 69 45 tMv r r' → TF tr r' → NF N' r' → (∀ j, j < 3125 → adL (fun v N => Bool.rec (motive := fun _ => Nat → Int) N (adN n col row q m (Nat.succ (i + 1)) (appL tr [v]) N) (okV col tr (i + 1) v)) c (v + 1) N' j = adN n col row q (m + 1) (i + 1) tr N j) → At 67 ((LA (i + 1) (v + 1)).map (Option.map (sVal (uM r' [so, k]) al))) [] (tW r' al cy rest 45 tMv) := by
      intro c
      induction c with
      | zero =>
        intro v r' N' so k hv hk' hT' hN' hfin
        obtain rfl : v = n := by omega
        have hw : tW (uM r' [so, k]) al cy rest 45 tMv = tW r' al cy rest 45 tMv := tW_uM (by omega) tMv_can
        refine g_pure hFC (r := uM r' [so, k]) sPa_nil (allL_ok (allL_ok (allL_ok q_a67 m (by omega)) (i + 1) (by omega)) (v + 1) (by omega)) (fun pc L st hk => ?_) (fun v hk => nomatch hk)
        obtain ⟨rfl, rfl, rfl⟩ := kAt_ok hk
        have hq := allL_ok (allL_ok q_aE i (by omega)) m (by show m < 5 - i; omega)
        rw [show Nat.succ (Nat.succ (Nat.add i m)) = v + 1 by show i + m + 1 + 1 = v + 1; omega] at hq
        have g := g_segS hFC (r := uM r' [so, k]) (al := al) (cy := cy) (rest := rest) tMv_ok (cC_M _) sPa_nil (oM_cons (by
          rw [sI_c, uM_lo (by decide)]
          have := nov r' hk'
          rwa [sI_c] at this) oM_nil) hq (fun pc L st pa hk => nomatch hk) (fun v pa hk hp => ?_)
        · rw [hw] at g
          exact g
        rw [hw, eqO_ok hk]
        exact ⟨rfl, r', hk', fun k hk => (hT' k hk).trans (hT k hk).symm, fun j hj => by rw [hN' j hj]; exact congrArg Int32.ofInt (hfin j hj), rfl⟩
      | succ c ihc =>
        intro v r' N' so k hv hk' hT' hN' hfin
        have hw : tW (uM r' [so, k]) al cy rest 45 tMv = tW r' al cy rest 45 tMv := tW_uM (by omega) tMv_can
        have hA' := AF_kp hn5 hk' hA
        refine g_pure hFC (r := uM r' [so, k]) sPa_nil (allL_ok (allL_ok (allL_ok q_a67 m (by omega)) (i + 1) (by omega)) (v + 1) (by omega)) (fun pc L st hk => ?_) (fun v hk => nomatch hk)
        obtain ⟨rfl, rfl, rfl⟩ := kAt_ok hk
        have cvv : ∀ p, 1 ≤ p → p ≤ n → sI (uM r' [so, k]) (cvE p) = Int32.ofNat (col p) := fun p a b => by
          show sI _ (.var (372736 + p)) = _
          rw [sI_v, uM_lo (by omega), ← (hA'.2.2.1 p a b).1]
          exact congrArg r'.1 (show 372736 + p = mP 22 p by unfold mP; omega)
        have tvv : ∀ p, p < i → sI (uM r' [so, k]) (tvE p) = Int32.ofNat (tr.getD p 0) := fun p a => by
          show sI _ (.var (376833 + p)) = _
          rw [sI_v, uM_lo (by omega), ← hT' p (by omega)]
          exact congrArg r'.1 (show 376833 + p = mP 23 (1 + p) by unfold mP; omega)
        have trm : ∀ p, p < i → tr.getD p 0 ∈ tr := fun p hp => by
          rw [List.getD_eq_getElem?_getD, List.getElem?_eq_getElem (by omega)]
          exact List.getElem_mem _
        have g := g_segC (Ch := chT (i + 1)) hFC (r := uM r' [so, k]) (al := al) (cy := cy) (rest := rest) (by omega) tMv_ok (cC_M _) sPa_nil (oM_cons (by
          rw [sI_c, uM_lo (by decide)]
          have := nov r' hk'
          rwa [sI_c] at this) oM_nil) (q_aV (m := m) (i := i) (v := v) hi5 (by omega)) (fun m0 pc L st pa mm hk hp hkp => ?_) (fun m0 v pa mm hk => nomatch hk)
        · rw [hw] at g
          exact g
        have hk1 : kpC chA 69 45 tMv r' (eOf 69 (uM r' [so, k]) mm) := kpC_trans (kpC_uM (by omega)) (kpC_weak (chT_A (by omega)) hkp)
        have hkr1 := kpC_trans hk' hk1
        have hN1 : NF N' (eOf 69 (uM r' [so, k]) mm) := NF_of (chT_num (i + 1) (by omega)) (kpC_trans (kpC_uM (by omega)) hkp) hN'
        have hT1 : TF tr (eOf 69 (uM r' [so, k]) mm) := fun p hp => by
          rw [hkp.1 _ (TF_pl p (by omega)) (by
            cases hb : chT (i + 1) (mP 23 (1 + p)) with
            | false => rfl
            | true =>
              have e : mP 23 (1 + p) = 376832 + (i + 1) := Nat.eq_of_beq_eq_true hb
              unfold mP at e
              omega), uM_lo (by unfold mP; omega)]
          exact hT' p hp
        rw [Bool.or_eq_true, Bool.and_eq_true, Bool.and_eq_true, Bool.and_eq_true, Bool.and_eq_true] at hk
        rcases hk with ⟨a1, a2, a3⟩ | ⟨b1, b2, -⟩
        · obtain ⟨rfl, rfl, rfl⟩ := kAt_ok a1
          unfold cdA at a2
          rw [Bool.and_eq_true, Bool.or_eq_true] at a2
          have hcol : col (v + 1) = col (i + 1) := by
            rcases a2.1 with h | h
            · rw [Nat.eq_of_beq_eq_true h]
            · have h2 := paY_ok hp h
              rw [show sI (uM r' [so, k]) (cvE (Nat.succ v)) = _ from cvv (v + 1) (by omega) (by omega), show sI (uM r' [so, k]) (cvE (Nat.succ i)) = _ from cvv (i + 1) (by omega) (by omega)] at h2
              have c1 := (hA'.2.2.1 (v + 1) (by omega) (by omega)).2
              have c2 := (hA'.2.2.1 (i + 1) (by omega) (by omega)).2
              exact ofNat_inj5 (by omega) (by omega) h2
          have hnv : v + 1 ∉ tr := fun hmem => by
            obtain ⟨p, hp1, hp2⟩ := List.mem_iff_getElem.mp hmem
            have h3 := paN_ok hp (allL_ok a2.2 p (by omega))
            rw [tvv p (by omega), sI_c] at h3
            refine h3 ?_
            rw [List.getD_eq_getElem?_getD, List.getElem?_eq_getElem hp1]
            show Int32.ofNat tr[p] = _
            rw [hp2]
          have hok : okV col tr (i + 1) (v + 1) = true := by
            unfold okV
            rw [Bool.and_eq_true]
            refine ⟨by rw [hcol]; exact Nat.beq_refl _, ?_⟩
            cases hb : memB tr (v + 1) with
            | false => rfl
            | true => exact absurd (memB_ok.mp hb) hnv
          have hTn : TF (appL tr [v + 1]) (eOf 69 (uM r' [so, k]) mm) := fun p hp => by
            rw [appL_eq, List.length_append] at hp
            have hp : p < tr.length + 1 := hp
            by_cases hpi : p < tr.length
            · rw [gd1 hpi]
              exact hT1 p hpi
            · obtain rfl : p = i := by omega
              have hE := isE_ok (b := 69) (r := uM r' [so, k]) (show Nat.succ p < 4096 by omega) a3
              rw [gd2 (by omega), show mP 23 (1 + p) = 4096 * (69 + 23) + Nat.succ p by unfold mP; omega, hE, sI_c, htl2, Nat.sub_self]
              rfl
          rw [LAs_eq]
          refine hFC.2 145 148 172 (10 + m) _ [.ref (al 0), .int (Int32.ofNat (i + 1 + 1))] [] _ _ ⟨_, _, rfl, rfl⟩ rfl (by decide) rfl (gRecv_t (by omega) rfl rfl) (ih (i + 1 + 1) (appL tr [v + 1]) _ N' (by omega) (by rw [appL_eq, List.length_append, htl2]; rfl) (fun x hxm => by
            rw [appL_eq] at hxm
            rcases List.mem_append.mp hxm with h | h
            · exact hx x h
            · rw [List.mem_singleton] at h
              omega) (by
            rw [appL_eq]
            refine List.pairwise_append.mpr ⟨hnd, List.pairwise_singleton _ _, fun a ha b hb => ?_⟩
            rw [List.mem_singleton] at hb
            subst hb
            exact fun e => hnv (e ▸ ha)) (AF_kp hn5 hkr1 hA) hTn hN1) (fun v2 w2 h => ?_)
          obtain ⟨rfl, r2, k1, k2, k3, rfl⟩ := h
          have g2 := g_pure hFC (al := al) (r := uM r' [so, k]) (w := tW r2 al cy rest 45 tMv) sPa_nil (allL_ok (allL_ok (allL_ok q_a148 m (by omega)) (i + 1) (by omega)) (v + 1) (by omega)) (fun pc L st hk => ?_) (fun v hk => nomatch hk)
          · rw [LAs_eq] at g2
            exact g2
          obtain ⟨rfl, rfl, rfl⟩ := kAt_ok hk
          rw [LAs_eq, ← LA_eq (x := r2)]
          refine ihc (v + 1) r2 _ _ _ (by omega) (kpC_trans hkr1 k1) (fun p hp => ?_) k3 (fun j hj => ?_)
          · rw [k2 p (by rw [appL_eq, List.length_append]; omega)]
            exact hT1 p hp
          · rw [← hfin j hj]
            show _ = adL _ c (v + 1 + 1) (Bool.rec (motive := fun _ => Nat → Int) N' (adN n col row q m (Nat.succ (i + 1)) (appL tr [v + 1]) N') (okV col tr (i + 1) (v + 1))) j
            rw [hok]
        · obtain ⟨rfl, rfl, rfl⟩ := kAt_ok b1
          have hok : okV col tr (i + 1) (v + 1) = false := by
            unfold okV
            unfold cdB at b2
            rw [Bool.or_eq_true] at b2
            rcases b2 with h | h
            · have h2 := paN_ok hp h
              rw [show sI (uM r' [so, k]) (cvE (Nat.succ v)) = _ from cvv (v + 1) (by omega) (by omega), show sI (uM r' [so, k]) (cvE (Nat.succ i)) = _ from cvv (i + 1) (by omega) (by omega)] at h2
              have : Nat.beq (col (v + 1)) (col (i + 1)) = false := by
                cases hb : Nat.beq (col (v + 1)) (col (i + 1)) with
                | false => rfl
                | true => exact absurd (congrArg Int32.ofNat (Nat.eq_of_beq_eq_true hb)) h2
              rw [this]
              rfl
            · have hmem : memB tr (v + 1) = true := by
                apply Classical.byContradiction
                intro hno
                have hall : allL i (fun k => Bool.not (paY (tvE k) (.natCast (Nat.succ v)) pa)) = true := allL_mk (fun p hp' => by
                  cases hb : paY (tvE p) (.natCast (Nat.succ v)) pa with
                  | false => rfl
                  | true =>
                    exfalso
                    have h3 := paY_ok hp hb
                    rw [tvv p hp', sI_c] at h3
                    have t5 := hx _ (trm p hp')
                    have e := ofNat_inj5 (by omega) (by omega) h3
                    exact hno (memB_ok.mpr (by rw [show v + 1 = tr.getD p 0 from e.symm]; exact trm p hp')))
                rw [hall] at h
                cases h
              rw [hmem]
              cases Nat.beq (col (v + 1)) (col (i + 1)) <;> rfl
          rw [LAs_eq, ← LA_eq (x := eOf 69 (uM r' [so, k]) mm)]
          refine ihc (v + 1) _ N' _ _ (by omega) hkr1 hT1 hN1 (fun j hj => ?_)
          rw [← hfin j hj]
          show _ = adL _ c (v + 1 + 1) (Bool.rec (motive := fun _ => Nat → Int) N' (adN n col row q m (Nat.succ (i + 1)) (appL tr [v + 1]) N') (okV col tr (i + 1) (v + 1))) j
          rw [hok]
    have g := g_segS hFC (r := r) (al := al) (cy := cy) (rest := rest) tMv_ok (cC_M _) sPa_nil (oM_cons (nov r kpC_rfl) oM_nil) (allL_ok (allL_ok q_aH i (by omega)) m (by show m < 5 - i; omega)) (fun pc L st pa hk hp => ?_) (fun v pa hk => nomatch hk)
    · exact g
    obtain ⟨rfl, rfl, rfl⟩ := kAt_ok hk
    have e1 : (LA (i + 1) 1).map (Option.map (sVal r al)) = (LA (i + 1) (0 + 1)).map (Option.map (sVal (uM r [0, 0]) al)) := by
      show [some (Value.ref (al 0)), some (.int (sI _ (.natCast (i + 1)))), some (.int (sI _ (.natCast 1))), none, none] = [some (Value.ref (al 0)), some (.int (sI _ (.natCast (i + 1)))), some (.int (sI _ (.natCast 1))), none, none]
      simp only [sI_c]
    rw [show List.map (Option.map (sVal r al)) (LA (Nat.succ i) (nat_lit 1)) = _ from e1]
    exact head n 0 r N 0 0 (by omega) kpC_rfl hT hN (fun j _ => rfl)
end AD
