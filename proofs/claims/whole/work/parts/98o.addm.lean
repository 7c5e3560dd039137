/-! 98o: fractions are added: the model (by wip/whole/mk98o.py) -/
noncomputable def chM1 (u : Nat) : Bool := Nat.beq u (nat_lit 282659)
noncomputable def chM2 (u : Nat) : Bool := Nat.beq u (nat_lit 282660)
noncomputable def chMd (u : Nat) : Bool := Bool.or (chM1 u) (chM2 u)
noncomputable def LBl0 : sL := [some (.inr (.inr (some (nat_lit 0)))), none, none]
noncomputable def LBl1 : sL := [some (.inr (.inr (some (nat_lit 0)))), some (.inr (.inl (.var (nat_lit 819290)))), none]
noncomputable def LBlp (p : Bool) : sL := [some (.inr (.inr (some (nat_lit 0)))), some (.inr (.inl (sgX p (nat_lit 819290)))), none]
noncomputable def LBl2 : sL := [some (.inr (.inr (some (nat_lit 0)))), some (.inr (.inl (.var (nat_lit 819291)))), none]
theorem q_loE : sEnt [.inr (.inr (some (nat_lit 0)))] (PG (nat_lit 187)).2.1 (fun L => eqL eqO L LBl0) = true := by decide +kernel
theorem q_lo1 : sBeg (nat_lit 69) (nat_lit 45) tMv (memB [(nat_lit 0)]) [] (fun m0 => sx PG (nat_lit 200) (nat_lit 20) (PG (nat_lit 187)) (fun pc => Nat.beq pc (nat_lit 8)) (fun pc L st _ m => Bool.and (eqL eqC m m0) (Bool.and (kAt (nat_lit 8) LBl0 [.inr (.inl (.var (nat_lit 282660))), .inr (.inl (.var (nat_lit 282659)))] pc L st) (true))) (fun _ _ m => Bool.and (eqL eqC m m0) false) (nat_lit 0) LBl0 [] [] m0) = true := by decide +kernel
noncomputable def loQ (p : Bool) : Bool := sBeg (nat_lit 69) (nat_lit 45) tMv (memB [(nat_lit 0)]) [] (fun m0 => sx PG (nat_lit 200) (nat_lit 20) (PG (nat_lit 187)) (fun pc => Nat.beq pc (nat_lit 34)) (fun pc L st _ m => Bool.and (eqL eqC m m0) (Bool.and (kAt (nat_lit 34) (LBlp p) [.inr (.inl (sgX p (nat_lit 819290))), .inr (.inl (.var (nat_lit 282659))), .inr (.inr (some (nat_lit 0)))] pc L st) (true))) (fun _ _ m => Bool.and (eqL eqC m m0) false) (nat_lit 11) LBl0 [.inr (.inl (.var (nat_lit 819290)))] [(false, p, (.pow (.mul (.var (nat_lit 282660)) (.natCast (nat_lit 0))) (nat_lit 10)), (.natCast (nat_lit 0)))] m0)
theorem q_lo2 : ∀ p : Bool, loQ p = true := by decide +kernel
theorem q_lo3 : sBeg (nat_lit 69) (nat_lit 45) tMv (memB [(nat_lit 0)]) [] (fun m0 => sx PG (nat_lit 200) (nat_lit 20) (PG (nat_lit 187)) (fun pc => Nat.beq pc (nat_lit 44)) (fun pc L st _ m => Bool.and (sKC chM1 (nat_lit 69) (nat_lit 45) tMv (memB [(nat_lit 0)]) m0 m) (Bool.and (kAt (nat_lit 44) LBl2 [.inr (.inl (.var (nat_lit 819291))), .inr (.inl (.var (nat_lit 282660))), .inr (.inr (some (nat_lit 0)))] pc L st) (isLE m (nat_lit 0) (nat_lit 35) (.var (nat_lit 819292))))) (fun _ _ m => Bool.and (sKC chM1 (nat_lit 69) (nat_lit 45) tMv (memB [(nat_lit 0)]) m0 m) false) (nat_lit 35) LBl2 [.inr (.inl (.var (nat_lit 819292))), .inr (.inr (some (nat_lit 0)))] [] m0) = true := by decide +kernel
theorem q_lo4 : sBeg (nat_lit 69) (nat_lit 45) tMv (memB [(nat_lit 0)]) [] (fun m0 => sx PG (nat_lit 200) (nat_lit 20) (PG (nat_lit 187)) (fun _ => false) (fun _ _ _ _ m => Bool.and (sKC chM2 (nat_lit 69) (nat_lit 45) tMv (memB [(nat_lit 0)]) m0 m) false) (fun v _ m => Bool.and (sKC chM2 (nat_lit 69) (nat_lit 45) tMv (memB [(nat_lit 0)]) m0 m) (Bool.and (eqO v none) (isLE m (nat_lit 0) (nat_lit 36) (.var (nat_lit 819293))))) (nat_lit 45) LBl2 [.inr (.inl (.var (nat_lit 819293))), .inr (.inr (some (nat_lit 0)))] [] m0) = true := by decide +kernel
noncomputable def LC0 : sL := [some (.inr (.inr (some (nat_lit 0)))), some (.inr (.inl (.var (nat_lit 819290)))), none, some (.inr (.inl (.var (nat_lit 819291)))), none]
theorem q_adTE : sEnt [.inr (.inr (some (nat_lit 0))), .inr (.inl (.var (nat_lit 819290))), .inr (.inl (.var (nat_lit 819291)))] (PG (nat_lit 188)).2.1 (fun L => eqL eqO L LC0) = true := by decide +kernel
theorem q_to1 : sBeg (nat_lit 69) (nat_lit 45) tMv (memB [(nat_lit 0)]) [] (fun m0 => sx PG (nat_lit 200) (nat_lit 21) (PG (nat_lit 188)) (fun pc => Nat.beq pc (nat_lit 28)) (fun pc L st _ m => Bool.and (sKC chMd (nat_lit 69) (nat_lit 45) tMv (memB [(nat_lit 0)]) m0 m) (Bool.and (kAt (nat_lit 28) LC0 [.inr (.inr (some (nat_lit 0)))] pc L st) (Bool.and (isLE m (nat_lit 0) (nat_lit 35) (.pow (.mul (.pow (.mul (.var (nat_lit 282659)) (.var (nat_lit 819291))) (nat_lit 22)) (.pow (.mul (.var (nat_lit 819290)) (.var (nat_lit 282660))) (nat_lit 22))) (nat_lit 20))) (isLE m (nat_lit 0) (nat_lit 36) (.pow (.mul (.var (nat_lit 282660)) (.var (nat_lit 819291))) (nat_lit 22)))))) (fun _ _ m => Bool.and (sKC chMd (nat_lit 69) (nat_lit 45) tMv (memB [(nat_lit 0)]) m0 m) false) (nat_lit 0) LC0 [] [] m0) = true := by decide +kernel
noncomputable def LC1 : sL := [some (.inr (.inr (some (nat_lit 0)))), none, none, none, none]
theorem q_to2 : sBeg (nat_lit 69) (nat_lit 45) tMv (memB [(nat_lit 0)]) [] (fun m0 => sx PG (nat_lit 200) (nat_lit 21) (PG (nat_lit 188)) (fun _ => false) (fun _ _ _ _ m => Bool.and (eqL eqC m m0) false) (fun v _ m => Bool.and (eqL eqC m m0) (Bool.and (eqO v none) (true))) (nat_lit 31) LC1 [] [] m0) = true := by decide +kernel
theorem q_abL : Bool.and (isL (nat_lit 69) (nat_lit 45) tMv (nat_lit 282659)) (isL (nat_lit 69) (nat_lit 45) tMv (nat_lit 282660)) = true := by decide +kernel
/-- the model's lowers -/
theorem c_low (l : Launch) {D : va_G} {cy : Nat → ClassId} {al : Nat → Nat} {rest : va_W} {r : sE} {dd : Nat} {U Dn : Int} (hdd : 20 ≤ dd) (ha : r.2 (mP 0 35) = Int64.ofInt U) (hb : r.2 (mP 0 36) = Int64.ofInt Dn) (hU : U.natAbs < 9223372036854775808) (hD : Dn.natAbs < 9223372036854775808) (h0 : Dn ≠ 0) : gMet l D cy al dd 187 (tW r al cy rest 45 tMv) [.ref (al 0)] (fun v w => v = none ∧ ∃ r1, kpC chMd 69 45 tMv r r1 ∧ (∀ v, 819200 ≤ v → r1.1 v = r.1 v) ∧ r1.2 (mP 0 35) = Int64.ofInt (U.tdiv (Nat.gcd U.natAbs Dn.natAbs) * Dn.sign) ∧ r1.2 (mP 0 36) = Int64.ofInt (Dn.tdiv (Nat.gcd U.natAbs Dn.natAbs) * Dn.sign) ∧ w = tW r1 al cy rest 45 tMv) := by
  refine gMet_up hdd ?_
  have hg0 : 0 < Nat.gcd U.natAbs Dn.natAbs := Nat.gcd_pos_of_pos_right _ (by omega)
  have hgl : Nat.gcd U.natAbs Dn.natAbs ≤ Dn.natAbs := Nat.gcd_le_right _ (by omega)
  generalize eG : Nat.gcd U.natAbs Dn.natAbs = G at hg0 hgl ⊢
  generalize eV : [Int64.ofNat G, (if Dn < 0 then -Int64.ofNat G else Int64.ofNat G), Int64.ofInt (U.tdiv G * Dn.sign), Int64.ofInt (Dn.tdiv G * Dn.sign)] = vs
  have g_0 : vs.getD 0 0 = Int64.ofNat G := by rw [← eV]; rfl
  have g_1 : vs.getD 1 0 = (if Dn < 0 then -Int64.ofNat G else Int64.ofNat G) := by rw [← eV]; rfl
  have g_2 : vs.getD 2 0 = Int64.ofInt (U.tdiv G * Dn.sign) := by rw [← eV]; rfl
  have g_3 : vs.getD 3 0 = Int64.ofInt (Dn.tdiv G * Dn.sign) := by rw [← eV]; rfl
  have hw0 : tW (uN r vs) al cy rest 45 tMv = tW r al cy rest 45 tMv := tW_uN (by omega) tMv_can
  have ha0 : (uN r vs).2 (mP 0 35) = Int64.ofInt U := (uN_lo (by unfold mP; omega)).trans ha
  have hb0 : (uN r vs).2 (mP 0 36) = Int64.ofInt Dn := (uN_lo (by unfold mP; omega)).trans hb
  have n0 : sJ (uN r vs) (.var (nat_lit 819290)) = Int64.ofNat G := (uN_v 0).trans g_0
  have n1 : sJ (uN r vs) (.var (nat_lit 819291)) = (if Dn < 0 then -Int64.ofNat G else Int64.ofNat G) := (uN_v 1).trans g_1
  have n2 : sJ (uN r vs) (.var (nat_lit 819292)) = Int64.ofInt (U.tdiv G * Dn.sign) := (uN_v 2).trans g_2
  have n3 : sJ (uN r vs) (.var (nat_lit 819293)) = Int64.ofInt (Dn.tdiv G * Dn.sign) := (uN_v 3).trans g_3
  have hk0 : kpC chMd 69 45 tMv r (uN r vs) := kpC_uN (by omega)
  have hk1 : ∀ v, (uN r vs).1 v = r.1 v := fun _ => rfl
  rw [← hw0]
  generalize uN r vs = r0 at hw0 ha0 hb0 n0 n1 n2 n3 hk0 hk1 ⊢
  have key := gMet_ofD (l := l) (D := D) (cy := cy) (al := al) (d := 20) (k := 187) (w := tW r0 al cy rest 45 tMv) (r := r0) (G := fun v w => v = none ∧ ∃ r1, kpC chMd 69 45 tMv r r1 ∧ (∀ v, 819200 ≤ v → r1.1 v = r.1 v) ∧ r1.2 (mP 0 35) = Int64.ofInt (U.tdiv G * Dn.sign) ∧ r1.2 (mP 0 36) = Int64.ofInt (Dn.tdiv G * Dn.sign) ∧ w = tW r1 al cy rest 45 tMv) q_loE (fun At hFC hLD => ?_)
  · exact key
  have xa : sJ r0 (.var (nat_lit 282659)) = Int64.ofInt U := by
    show (sD _ _).2 = _
    rw [sD_v]
    exact ha0
  have xb : sJ r0 (.var (nat_lit 282660)) = Int64.ofInt Dn := by
    show (sD _ _).2 = _
    rw [sD_v]
    exact hb0
  refine g_segS hFC (r := r0) tMv_ok (cC_M _) sPa_nil oM_nil q_lo1 (fun pc L st pa hk hp => ?_) (fun v pa hk => nomatch hk)
  rw [Bool.and_eq_true] at hk
  obtain ⟨rfl, rfl, rfl⟩ := kAt_ok hk.1
  have e2 : List.map (sVal r0 al) [.inr (.inl (.var (nat_lit 282660))), .inr (.inl (.var (nat_lit 282659)))] = ([.long (Int64.ofInt U), .long (Int64.ofInt Dn)] : List Value).reverse ++ [] := by
    simp only [List.map_cons, List.map_nil, sVal, xa, xb]
    rfl
  rw [e2]
  refine hFC.2 8 11 186 19 _ [.long (Int64.ofInt U), .long (Int64.ofInt Dn)] [] _ _ ⟨_, _, rfl, rfl⟩ rfl (by decide) rfl (Or.inl rfl) (c_gcdM l (by omega) hU hD) (fun v w2 h => ?_)
  obtain ⟨rfl, rfl⟩ := h
  have fg : ∀ p : Bool, (p = true ↔ Dn < 0) → sKd r0 (false, p, (.pow (.mul (.var (nat_lit 282660)) (.natCast (nat_lit 0))) (nat_lit 10)), (.natCast (nat_lit 0))) := fun p hp => by
    have e : sI r0 (.pow (.mul (.var (nat_lit 282660)) (.natCast (nat_lit 0))) (nat_lit 10)) = lg_cmp (Int64.ofInt Dn) (Int64.ofNat 0) := by
      rw [sI_lc, xb, sJ_c]
    cases p with
    | true =>
      refine sKd_t.mpr ?_
      show sI _ _ < sI _ _
      rw [e, sI_c]
      exact lgN.mpr ((zJ_n hD).mpr (hp.mp rfl))
    | false =>
      refine sKd_f.mpr ?_
      show ¬ sI _ _ < sI _ _
      rw [e, sI_c]
      exact fun q => nomatch hp.mpr ((zJ_n hD).mp (lgN.mp q))
  have sg : sJ r0 (sgX (decide (Dn < 0)) (nat_lit 819290)) = sJ r0 (.var (nat_lit 819291)) := by
    rw [n1]
    by_cases h : Dn < 0
    · rw [if_pos h, decide_eq_true h]
      show (sD _ (.pow (.neg (.var 819290)) 20)).2 = _
      rw [sD_u]
      show -sJ _ (.var (nat_lit 819290)) = _
      rw [n0]
    · rw [if_neg h, decide_eq_false h]
      exact n0
  have g2 := g_segS hFC (r := r0) (al := al) (cy := cy) (rest := rest) tMv_ok (cC_M _) (pa := _) (fun q hq => ?_) oM_nil (q_lo2 (decide (Dn < 0))) (fun pc L st pa hk2 hp => ?_) (fun v pa hk => nomatch hk)
  · have e3 : List.map (sVal r0 al) [.inr (.inl (.var (nat_lit 819290)))] = (some (Value.long (Int64.ofNat G))).toList ++ [] := by
      simp only [List.map_cons, List.map_nil, sVal, n0]
      rfl
    rw [e3] at g2
    rw [eG]
    exact g2
  · rw [List.mem_singleton] at hq
    subst hq
    exact fg _ decide_eq_true_iff
  rw [Bool.and_eq_true] at hk2
  obtain ⟨rfl, rfl, rfl⟩ := kAt_ok hk2.1
  have e4 : (LBlp (decide (Dn < 0))).map (Option.map (sVal r0 al)) = LBl2.map (Option.map (sVal r0 al)) := by
    simp only [LBlp, LBl2, List.map_cons, List.map_nil, Option.map_some, Option.map_none, sVal, sg]
  have hby : ¬ sJ r0 (.var (nat_lit 819291)) = 0 := by
    rw [n1]
    intro q
    by_cases h : Dn < 0
    · rw [if_pos h] at q
      have := (zJ_0 (z := -(G : Int)) (by omega)).mp (by rw [Int64.ofInt_neg, Int64.ofInt_eq_ofNat]; exact q)
      omega
    · rw [if_neg h] at q
      have := (zJ_0 (z := (G : Int)) (by omega)).mp (by rw [Int64.ofInt_eq_ofNat]; exact q)
      omega
  have hdv : ∀ x : Int, x.natAbs < 9223372036854775808 → Int64.ofInt x / sJ r0 (.var (nat_lit 819291)) = Int64.ofInt (x.tdiv G * Dn.sign) := fun x hx => by
    rw [n1]
    by_cases h : Dn < 0
    · rw [if_pos h, zJ_divn hx (by omega), Int.sign_eq_neg_one_of_neg h]
      congr 1
      omega
    · rw [if_neg h, zJ_div hx (by omega), Int.sign_eq_one_of_pos (by omega)]
      congr 1
      omega
  rw [e4]
  simp only [List.map_cons, List.map_nil, sVal, sg, xa]
  refine hLD.1 34 35 _ _ _ _ _ ⟨_, rfl⟩ hby ?_
  rw [hdv U hU, ← n2]
  obtain ⟨l1, l2⟩ := Bool.and_eq_true_iff.mp q_abL
  refine g_segH hFC (r := r0) (st := [.inr (.inl (.var (nat_lit 819292))), .inr (.inr (some (nat_lit 0)))]) (by omega) tMv_ok (cC_M _) sPa_nil oM_nil q_lo3 (fun m0 pc L st pa m hk3 hp hk4 hH => ?_) (fun m0 v pa m hk => nomatch hk)
  rw [Bool.and_eq_true] at hk3
  obtain ⟨rfl, rfl, rfl⟩ := kAt_ok hk3.1
  have ea4 := isLE_ok (b := 69) (r := r0) (by first | decide | omega) hk3.2
  generalize eOf 69 r0 m = r4 at hk4 hH ea4 ⊢
  have m1 : sJ r4 (.var (nat_lit 819291)) = sJ r0 (.var (nat_lit 819291)) := by
    simp only [sJ, sD_v, (hH 819291 (by omega)).2]
  have m3 : sJ r4 (.var (nat_lit 819293)) = Int64.ofInt (Dn.tdiv G * Dn.sign) := by
    rw [← n3]
    simp only [sJ, sD_v, (hH 819293 (by omega)).2]
  have e5 : LBl2.map (Option.map (sVal r0 al)) = LBl2.map (Option.map (sVal r4 al)) := by
    simp only [LBl2, List.map_cons, List.map_nil, Option.map_some, Option.map_none, sVal, m1]
  rw [e5]
  simp only [List.map_cons, List.map_nil, sVal, xb]
  refine hLD.1 44 45 _ _ _ _ _ ⟨_, rfl⟩ hby ?_
  rw [hdv Dn hD, ← m3]
  have g5 := g_segH hFC (al := al) (cy := cy) (rest := rest) (r := r4) (by omega) tMv_ok (cC_M _) sPa_nil oM_nil q_lo4 (fun m0 pc L st pa m hk => nomatch hk) (fun m0 v pa m hk5 hp hk6 hH2 => ?_)
  · simp only [List.map_cons, List.map_nil, sVal] at g5 ⊢
    exact g5
  rw [Bool.and_eq_true] at hk5
  rw [eqO_ok hk5.1]
  refine ⟨rfl, _, kpC_trans hk0 (kpC_trans (kpC_weak (fun u hu => (Bool.or_eq_false_iff.mp hu).1) hk4) (kpC_weak (fun u hu => (Bool.or_eq_false_iff.mp hu).2) hk6)), fun v hv => ((hH2 v hv).1.trans (hH v hv).1).trans (hk1 v), ?_, ?_, rfl⟩
  · refine (hk6.2.1 _ l1 rfl).trans (Eq.trans ea4 n2)
  · exact Eq.trans (isLE_ok (b := 69) (r := r4) (by first | decide | omega) hk5.2) m3
/-- the model's addsTo -/
theorem c_addM (l : Launch) {D : va_G} {cy : Nat → ClassId} {al : Nat → Nat} {rest : va_W} {r : sE} {dd : Nat} {a b c d : Int} (hdd : 21 ≤ dd) (ha : r.2 (mP 0 35) = Int64.ofInt a) (hb : r.2 (mP 0 36) = Int64.ofInt b) (hU : (frU a b c d).natAbs < 9223372036854775808) (hD : (b * d).natAbs < 9223372036854775808) (h0 : b * d ≠ 0) : gMet l D cy al dd 188 (tW r al cy rest 45 tMv) [.ref (al 0), .long (Int64.ofInt c), .long (Int64.ofInt d)] (fun v w => v = none ∧ ∃ r1, kpC chMd 69 45 tMv r r1 ∧ (∀ v, 819200 ≤ v → r1.1 v = r.1 v) ∧ r1.2 (mP 0 35) = Int64.ofInt (frA a b c d) ∧ r1.2 (mP 0 36) = Int64.ofInt (frB a b c d) ∧ w = tW r1 al cy rest 45 tMv) := by
  refine gMet_up hdd ?_
  have hw0 : tW (uN r [Int64.ofInt c, Int64.ofInt d]) al cy rest 45 tMv = tW r al cy rest 45 tMv := tW_uN (by omega) tMv_can
  have ha0 : (uN r [Int64.ofInt c, Int64.ofInt d]).2 (mP 0 35) = Int64.ofInt a := (uN_lo (by unfold mP; omega)).trans ha
  have hb0 : (uN r [Int64.ofInt c, Int64.ofInt d]).2 (mP 0 36) = Int64.ofInt b := (uN_lo (by unfold mP; omega)).trans hb
  have n0 : sJ (uN r [Int64.ofInt c, Int64.ofInt d]) (.var (nat_lit 819290)) = Int64.ofInt c := uN_v 0
  have n1 : sJ (uN r [Int64.ofInt c, Int64.ofInt d]) (.var (nat_lit 819291)) = Int64.ofInt d := uN_v 1
  have hk0 : kpC chMd 69 45 tMv r (uN r [Int64.ofInt c, Int64.ofInt d]) := kpC_uN (by omega)
  have hk1 : ∀ v, (uN r [Int64.ofInt c, Int64.ofInt d]).1 v = r.1 v := fun _ => rfl
  rw [← hw0]
  generalize uN r [Int64.ofInt c, Int64.ofInt d] = r0 at hw0 ha0 hb0 n0 n1 hk0 hk1 ⊢
  have key := gMet_ofD (l := l) (D := D) (cy := cy) (al := al) (d := 21) (k := 188) (w := tW r0 al cy rest 45 tMv) (r := r0) (G := fun v w => v = none ∧ ∃ r1, kpC chMd 69 45 tMv r r1 ∧ (∀ v, 819200 ≤ v → r1.1 v = r.1 v) ∧ r1.2 (mP 0 35) = Int64.ofInt (frA a b c d) ∧ r1.2 (mP 0 36) = Int64.ofInt (frB a b c d) ∧ w = tW r1 al cy rest 45 tMv) q_adTE (fun At hFC hLD => ?_)
  · have e1 : List.map (sVal r0 al) [.inr (.inr (some (nat_lit 0))), .inr (.inl (.var (nat_lit 819290))), .inr (.inl (.var (nat_lit 819291)))] = [.ref (al 0), .long (Int64.ofInt c), .long (Int64.ofInt d)] := by
      simp only [List.map_cons, List.map_nil, sVal, n0, n1]
    rw [e1] at key
    exact key
  have xa : sJ r0 (.var (nat_lit 282659)) = Int64.ofInt a := by
    show (sD _ _).2 = _
    rw [sD_v]
    exact ha0
  have xb : sJ r0 (.var (nat_lit 282660)) = Int64.ofInt b := by
    show (sD _ _).2 = _
    rw [sD_v]
    exact hb0
  have hdn : sJ r0 (.pow (.mul (.var (nat_lit 282660)) (.var (nat_lit 819291))) (nat_lit 22)) = Int64.ofInt (b * d) := by
    show (sD _ _).2 = _
    rw [sD_b]
    show sJ r0 _ * sJ r0 _ = _
    rw [xb, n1, Int64.ofInt_mul]
  have hup : sJ r0 (.pow (.mul (.pow (.mul (.var (nat_lit 282659)) (.var (nat_lit 819291))) (nat_lit 22)) (.pow (.mul (.var (nat_lit 819290)) (.var (nat_lit 282660))) (nat_lit 22))) (nat_lit 20)) = Int64.ofInt (frU a b c d) := by
    show (sD _ _).2 = _
    rw [sD_b, sD_b, sD_b]
    show sJ r0 _ * sJ r0 _ + sJ r0 _ * sJ r0 _ = _
    rw [xa, n1, n0, xb, ← Int64.ofInt_mul, ← Int64.ofInt_mul, ← Int64.ofInt_add]
    rfl
  refine g_segH hFC (r := r0) (by omega) tMv_ok (cC_M _) sPa_nil oM_nil q_to1 (fun m0 pc L st pa m hk3 hp hk4 hH => ?_) (fun m0 v pa m hk => nomatch hk)
  rw [Bool.and_eq_true, Bool.and_eq_true] at hk3
  obtain ⟨rfl, rfl, rfl⟩ := kAt_ok hk3.1
  have ea := (isLE_ok (b := 69) (r := r0) (by first | decide | omega) hk3.2.1).trans hup
  have eb := (isLE_ok (b := 69) (r := r0) (by first | decide | omega) hk3.2.2).trans hdn
  generalize eOf 69 r0 m = r4 at hk4 hH ea eb ⊢
  have e5 : LC0.map (Option.map (sVal r0 al)) = LC0.map (Option.map (sVal r4 al)) := by
    simp only [LC0, List.map_cons, List.map_nil, Option.map_some, Option.map_none, sVal, sJ, sD_v, (hH 819290 (by omega)).2, (hH 819291 (by omega)).2]
  rw [e5]
  refine hFC.2 28 31 187 20 _ [.ref (al 0)] [] _ _ ⟨_, _, rfl, rfl⟩ rfl (by decide) rfl (gRecv_t (by omega) rfl rfl) (c_low l (by omega) ea eb hU hD h0) (fun v w2 h => ?_)
  obtain ⟨rfl, r6, h1, h2, h3, h4, rfl⟩ := h
  have g5 := g_segS hFC (al := al) (cy := cy) (rest := rest) (r := r6) tMv_ok (cC_M _) sPa_nil oM_nil q_to2 (fun pc L st pa hk => nomatch hk) (fun v pa hk5 hp => ?_)
  · refine hLD.2.2 31 _ (LC1.map (Option.map (sVal r6 al))) _ _ rfl (fun j v hv => ?_) g5
    rcases j with _ | _ | _ | _ | _ | j
    all_goals first | exact hv | exact nomatch hv
  rw [Bool.and_eq_true] at hk5
  rw [eqO_ok hk5.1]
  exact ⟨rfl, r6, kpC_trans hk0 (kpC_trans hk4 h1), fun v hv => ((h2 v hv).trans (hH v hv).1).trans (hk1 v), h3, h4, rfl⟩
