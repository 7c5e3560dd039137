/-! 89: the model: straightens, by contract (by wip/whole/mk89.py) -/
noncomputable def chSt (u : Nat) : Bool := Bool.or (Nat.beq u (nat_lit 282652)) (memB [nat_lit 89, nat_lit 90, nat_lit 91, nat_lit 92, nat_lit 93, nat_lit 94] (Nat.div u (nat_lit 4096)))
theorem chSt_iff {u : Nat} : chSt u = true ↔ (u = 282652 ∨ u / 4096 ∈ [89, 90, 91, 92, 93, 94]) := by
  unfold chSt
  rw [Bool.or_eq_true, memB_ok]
  constructor
  · intro h
    exact h.imp Nat.eq_of_beq_eq_true id
  · intro h
    exact h.imp (fun e => by rw [e]; rfl) id
theorem ch_sub {A B : Nat → Bool} (h : ∀ u, A u = true → B u = true) : ∀ u, B u = false → A u = false := fun u hu => by
  cases hb : A u with
  | false => rfl
  | true => rw [h u hb] at hu; cases hu
theorem chA_St : ∀ u, chSt u = false → chA u = false := ch_sub (fun u h => chSt_iff.mpr (Or.inr (by
  have h2 : u / 4096 ∈ [89, 92] := memB_ok.mp h
  simp at h2 ⊢
  omega)))
theorem chS0_St : ∀ u, chSt u = false → chS0 u = false := ch_sub (fun u h => chSt_iff.mpr (Or.inr (by
  have h2 : u / 4096 ∈ [93, 94] := memB_ok.mp h
  simp at h2 ⊢
  omega)))
theorem chS2_St : ∀ u, chSt u = false → chS2q u = false := ch_sub (fun u h => chSt_iff.mpr (Or.inr (by
  have h2 : u / 4096 ∈ [94] := memB_ok.mp h
  simp at h2 ⊢
  omega)))
theorem chS1_iff {u : Nat} : chS1 u = true ↔ (u = 282652 ∨ u / 4096 ∈ [90, 91, 93, 94]) := by
  unfold chS1
  rw [Bool.or_eq_true, memB_ok]
  constructor
  · intro h
    exact h.imp Nat.eq_of_beq_eq_true id
  · intro h
    exact h.imp (fun e => by rw [e]; rfl) id
theorem chS1_St : ∀ u, chSt u = false → chS1 u = false := ch_sub (fun u h => chSt_iff.mpr ((chS1_iff.mp h).imp id (fun h2 => by
  simp at h2 ⊢
  omega)))
theorem chOf_St : ∀ u, chSt u = false → chOf u = false := ch_sub (fun u h => chSt_iff.mpr (Or.inl (Nat.eq_of_beq_eq_true h)))
theorem chSt_Q : ∀ u, scQ u = false → chSt u = false := ch_sub (fun u h => by
  rcases chSt_iff.mp h with h | h
  · rw [h]
    decide +kernel
  · unfold scQ
    rw [Bool.or_eq_true, memB_ok]
    left
    simp at h ⊢
    have h2 : u / 4096 = 89 ∨ u / 4096 = 90 ∨ u / 4096 = 91 ∨ u / 4096 = 92 ∨ u / 4096 = 93 ∨ u / 4096 = 94 := h
    show Nat.div u 4096 = _ ∨ _
    have e : Nat.div u 4096 = u / 4096 := rfl
    rw [e]
    omega)
theorem kp_St {r r1 : sE} (h : kpC chSt 69 45 tMv r r1) : kp 69 45 tMv r r1 := ⟨fun u a b => h.1 u a (chSt_Q u b), fun u a b => h.2.1 u a (chSt_Q u b), h.2.2⟩
theorem no_num {A : Nat → Bool} (h : ∀ u, A u = true → u = 282652 ∨ u / 4096 ∈ [90, 91, 93, 94]) : ∀ j, j < 3125 → A (mP 20 j) = false := fun j hj => by
  cases hb : A (mP 20 j) with
  | false => rfl
  | true =>
    rcases h _ hb with h2 | h2
    · unfold mP at h2
      omega
    · rw [show mP 20 j / 4096 = 89 by unfold mP; omega] at h2
      simp at h2
theorem nuU_s {N : Nat → Int} {c : Nat} {x : Int} : nuU N c x c = x := by
  show Bool.rec (motive := fun _ => Int) (N c) x (Nat.beq c c) = x
  rw [show Nat.beq c c = true from Nat.beq_refl c]
theorem nuU_n {N : Nat → Int} {c j : Nat} {x : Int} (h : j ≠ c) : nuU N c x j = N j := by
  show Bool.rec (motive := fun _ => Int) (N j) x (Nat.beq j c) = N j
  rw [show Nat.beq j c = false by
    cases hb : Nat.beq j c with
    | false => rfl
    | true => exact absurd (Nat.eq_of_beq_eq_true hb) h]
theorem adN_zero {n : Nat} {col row : Nat → Nat} {q : Int} (hq : Int32.ofInt q = 0) : ∀ (m i : Nat) (tr : List Nat) (N : Nat → Int) (j : Nat), Int32.ofInt (adN n col row q m i tr N j) = Int32.ofInt (N j) := by
  intro m
  induction m with
  | zero =>
    intro i tr N j
    show Int32.ofInt (nuU N (cdV n row (appL tr (restO n)) (n - 1)) (N (cdV n row (appL tr (restO n)) (n - 1)) + q * sgI (appL tr (restO n))) j) = _
    by_cases h : j = cdV n row (appL tr (restO n)) (n - 1)
    · rw [← h, nuU_s, Int32.ofInt_add, Int32.ofInt_mul, hq, Int32.zero_mul, Int32.add_zero]
    · rw [nuU_n h]
  | succ m ih =>
    intro i tr N j
    have key : ∀ (c v : Nat) (N : Nat → Int), Int32.ofInt (adL (fun v N => Bool.rec (motive := fun _ => Nat → Int) N (adN n col row q m (Nat.succ i) (appL tr [v]) N) (okV col tr i v)) c v N j) = Int32.ofInt (N j) := by
      intro c
      induction c with
      | zero => intro v N; rfl
      | succ c ihc =>
        intro v N
        refine (ihc (v + 1) _).trans ?_
        show Int32.ofInt (Bool.rec (motive := fun _ => Nat → Int) N (adN n col row q m (Nat.succ i) (appL tr [v]) N) (okV col tr i v) j) = _
        cases okV col tr i v with
        | false => rfl
        | true => exact ih (i + 1) (appL tr [v]) N j
    exact key n 1 N
theorem LSt_eq {al : Nat → Nat} {c p : Nat} {x : sE} : (LSt c p).map (Option.map (sVal x al)) = [some (.ref (al 0)), some (.int (Int32.ofNat p)), some (.int (Int32.ofNat (hiN c p))), some (.int (Int32.ofNat (dOf c)))] := by
  simp only [LSt, List.map_cons, List.map_nil, Option.map_some, sVal, sI_c]
theorem stSt_eq {al : Nat → Nat} {c p : Nat} {x : sE} : (stSt c p).map (sVal x al) = [.int (Int32.ofNat (stc c (hiN c p))), .ref (al 20), .int (Int32.ofNat (hiN c p)), .ref (al 24)] := by
  simp only [stSt, List.map_cons, List.map_nil, sVal, sI_c]
theorem dn_pl : ∀ k, k < 6 → (isV 69 45 tMv (mP 25 k) = true ∧ chA (mP 25 k) = false) ∧ (isV 69 45 tMv (mP 24 k) = true ∧ chA (mP 24 k) = false) ∧ chS2q (mP 24 k) = false := by decide +kernel
theorem hi_perm : ∀ c, c < 18 → ∀ k, k < dOf c → anyN (dOf c) (fun p => Nat.beq (hiN c p) k) = true := by decide +kernel
theorem dn_oM {c p : Nat} {r : sE} (h : ∀ k, k < 6 → r.1 (mP 25 k) = Int32.ofNat (dnN c p k)) : oMs r (oDn c p) := by
  have g : ∀ k, k < 6 → r.1 (mP 25 k) = sI r (.natCast (dnN c p k)) := fun k hk => by rw [sI_c]; exact h k hk
  exact oM_cons (g 0 (by omega)) (oM_cons (g 1 (by omega)) (oM_cons (g 2 (by omega)) (oM_cons (g 3 (by omega)) (oM_cons (g 4 (by omega)) (oM_cons (g 5 (by omega)) oM_nil)))))
theorem isDn_ok {c p : Nat} {r : sE} {m : sM} (h : isDn c p m = true) : ∀ k, k < 6 → (eOf 69 r m).1 (mP 25 k) = Int32.ofNat (dnN c p k) := fun k hk => by
  have := isE_ok (b := 69) (r := r) (show k < 4096 by omega) (allL_ok h k hk)
  rw [sI_c] at this
  exact this
def FF (n : Nat) (col row : Nat → Nat) (r : sE) : Prop := (∀ p, 1 ≤ p → p ≤ n → r.1 (mP 22 p) = Int32.ofNat (col p) ∧ col p < 5) ∧ ∀ p, 1 ≤ p → p ≤ n → r.1 (mP 21 p) = Int32.ofNat (row p) ∧ row p < 5
section ST
variable {D : va_G} {cy : Nat → ClassId} {al : Nat → Nat} {rest : va_W}
theorem st_loop (l : Launch) {c : Nat} (hc : c < 18) {r : sE} (hcc : cC 69 45 (tM c) r) (hnr : r.1 (mP 0 1) = Int32.ofNat (nOf c)) {Fin : Nat → Int} {At : gAt} (hFC : gFC l D cy al 176 16 (fun v w => v = none ∧ ∃ r2, kpC chSt 69 45 tMv r r2 ∧ (∀ k, k < dOf c → r2.1 (mP 24 k) = Int32.ofInt (Fin k)) ∧ w = tW r2 al cy rest 45 tMv) At) (hAR : gAR cy 176 At) : ∀ (m p : Nat) (r' : sE) (N' acc : Nat → Int), p + (m + 1) = dOf c → kpC chSt 69 45 tMv r r' → NF N' r' → (∀ k, k < 6 → r'.1 (mP 25 k) = Int32.ofNat (dnN c (p + 1) k)) → (∀ p', p' < p → r'.1 (mP 24 (hiN c p')) = Int32.ofInt (acc (hiN c p'))) → strG c (m + 1) p N' acc = Fin → At 137 ((LSt c p).map (Option.map (sVal r' al))) ((stSt c p).map (sVal r' al)) (tW r' al cy rest 45 tMv) := by
  obtain ⟨⟨d1, d6⟩, n1, n5⟩ := cd_tab c hc
  intro m
  induction m with
  | zero =>
    intro p r' N' acc hpm hk' hN' hdn hst hfin
    have hp : p < dOf c := by omega
    obtain ⟨h6, hcd⟩ := hi_tab c hc p hp
    have hq := q_str hc
    unfold strT at hq
    rw [Bool.and_eq_true] at hq
    have hqp := allL_ok hq.2 p hp
    rw [Bool.and_eq_true] at hqp
    rw [LSt_eq, stSt_eq]
    refine hAR.1 137 138 (stc c (hiN c p)) 3125 20 (al 20) _ _ _ _ ⟨_, rfl⟩ hcd (by omega) num_w ?_
    rw [show sInt r' (tMv 20).2.2[stc c (hiN c p)]? = Int32.ofInt (N' (stc c (hiN c p))) from (num_at hcd).trans (hN' _ hcd)]
    generalize hxx : N' (stc c (hiN c p)) = x
    have hw : tW (uM r' [Int32.ofInt x]) al cy rest 45 tMv = tW r' al cy rest 45 tMv := tW_uM (by omega) tMv_can
    have E0 : sI (uM r' [Int32.ofInt x]) (.var (nat_lit 819290)) = Int32.ofInt x := by rw [sI_v]; exact uM_v 0
    have EN : sI (uM r' [Int32.ofInt x]) negE = Int32.ofInt (-x) := by
      show (sD _ (.pow (.neg (.var 819290)) 0)).1 = _
      rw [sD_u]
      show -(sI (uM r' [Int32.ofInt x]) (.var (nat_lit 819290))) = _
      rw [E0, Int32.ofInt_neg]
    have cC' : ∀ r2, kpC chSt 69 45 tMv r r2 → cC 69 45 (tM c) r2 := fun r2 h => kpM_cC hc (kp_St h) hcc
    have cCU : cC 69 45 (tM c) (uM r' [Int32.ofInt x]) := cC' _ (kpC_trans hk' (kpC_uM (by omega)))
    -- what comes behind this round
    have behind : ∀ r'' : sE, kpC chSt 69 45 tMv r r'' → NF (adN (nOf c) (colS c (hiN c p)) (rowS c (hiN c p)) (-x) (nOf c) 1 [] N') r'' → (∀ k, k < 6 → k ≠ hiN c p → r''.1 (mP 24 k) = r'.1 (mP 24 k)) → r''.1 (mP 24 (hiN c p)) = Int32.ofInt x →
        ((p + 1 = dOf c → (∀ k, k < dOf c → r''.1 (mP 24 k) = Int32.ofInt (Fin k))) ∧ (p + 2 ≤ dOf c → (∀ k, k < 6 → r''.1 (mP 25 k) = Int32.ofNat (dnN c (p + 2) k)) → At 137 ((LSt c (p + 1)).map (Option.map (sVal r'' al))) ((stSt c (p + 1)).map (sVal r'' al)) (tW r'' al cy rest 45 tMv))) := fun r'' b1 b2 b3 b4 => by
      have hst2 : ∀ p', p' < p + 1 → r''.1 (mP 24 (hiN c p')) = Int32.ofInt (nuU acc (hiN c p) x (hiN c p')) := fun p' hp' => by
        by_cases he : hiN c p' = hiN c p
        · rw [he, nuU_s]
          exact b4
        · rw [nuU_n he, b3 _ (hi_tab c hc p' (by omega)).1 he]
          refine hst p' ?_
          rcases Nat.lt_or_ge p' p with h | h
          · exact h
          · exact absurd (by rw [show p' = p by omega]) he
      refine ⟨fun he k hk => ?_, fun hle hdn2 => absurd hle (by omega)⟩
      obtain ⟨p', q1, q2⟩ := anyN_ok (hi_perm c hc k hk)
      have e := Nat.eq_of_beq_eq_true q2
      rw [← e, hst2 p' (by omega), ← hfin, ← hxx]
      rfl
    have g := g_segC (Ch := chS1) hFC (r := uM r' [Int32.ofInt x]) (al := al) (cy := cy) (rest := rest) (by omega) (tM_ok hc) cCU sPa_nil (dn_oM (fun k hk => by
      rw [uM_lo (by unfold mP; omega)]
      exact hdn k hk)) hqp.1 (fun m0 pc L st pa mm hk hp hkp => ?_) (fun m0 v pa mm hk hp hkp => ?_)
    · rw [hw, LSt_eq, show List.map (sVal (uM r' [Int32.ofInt x]) al) [.inl (.var (nat_lit 819290)), .inl (.natCast (hiN c p)), .inr (.inr (some (nat_lit 24)))] = [.int (Int32.ofInt x), .int (Int32.ofNat (hiN c p)), .ref (al 24)] by simp only [List.map_cons, List.map_nil, sVal, sI_c, E0]] at g
      exact g
    · have hk1 : kpC chSt 69 45 tMv r (eOf 69 (uM r' [Int32.ofInt x]) mm) := kpC_trans (kpC_trans hk' (kpC_uM (by omega))) (kpC_weak chS1_St hkp)
      have hN1 : NF N' (eOf 69 (uM r' [Int32.ofInt x]) mm) := NF_of (no_num (fun u h => chS1_iff.mp h)) (kpC_trans (kpC_uM (by omega)) hkp) hN'
      rw [Bool.and_eq_true] at hk
      obtain ⟨hs, hk⟩ := hk
      have s1 : ∀ k, k < 6 → k ≠ hiN c p → (eOf 69 (uM r' [Int32.ofInt x]) mm).1 (mP 24 k) = r'.1 (mP 24 k) := fun k hk6 hne => by
        have := isE_ok (b := 69) (r := uM r' [Int32.ofInt x]) (show k < 4096 by omega) (allL_ok hs k hk6)
        rw [show Nat.beq k (hiN c p) = false by
          cases hb : Nat.beq k (hiN c p) with
          | false => rfl
          | true => exact absurd (Nat.eq_of_beq_eq_true hb) hne] at this
        refine this.trans ?_
        show sI _ (.var (380928 + k)) = _
        rw [sI_v, uM_lo (by omega)]
        exact congrArg r'.1 (show 380928 + k = mP 24 k by unfold mP; omega)
      have s2 : (eOf 69 (uM r' [Int32.ofInt x]) mm).1 (mP 24 (hiN c p)) = Int32.ofInt x := by
        have := isE_ok (b := 69) (r := uM r' [Int32.ofInt x]) (show hiN c p < 4096 by omega) (allL_ok hs (hiN c p) h6)
        rw [show Nat.beq (hiN c p) (hiN c p) = true from Nat.beq_refl _] at this
        exact this.trans E0
      rw [Bool.or_eq_true] at hk
      rcases hk with hk | hk
      · rw [Bool.and_eq_true] at hk
        obtain ⟨a1, a2⟩ := hk
        rw [Bool.and_eq_true, Bool.and_eq_true, Bool.and_eq_true] at a2
        obtain ⟨k1, k2, k3, k4⟩ := a2
        obtain ⟨rfl, rfl, rfl⟩ := kAt_ok k1
        generalize hr1 : eOf 69 (uM r' [Int32.ofInt x]) mm = r1 at hk1 hN1 s1 s2
        have hdn1 : ∀ k, k < 6 → r1.1 (mP 25 k) = Int32.ofNat (dnN c (p + 1) k) := fun k hk => by rw [← hr1]; exact isDn_ok k4 k hk
        have hA1 : AF (nOf c) (colS c (hiN c p)) (rowS c (hiN c p)) (-x) r1 := by
          refine ⟨?_, ?_, fun i g1 g2 => ?_, fun i g1 g2 => ?_⟩
          · rw [(kp_St hk1).1 _ kpM_regs.1.1 kpM_regs.1.2]
            exact hnr
          · rw [← hr1]
            exact (isE_ok (b := 69) (show 28 < 4096 by omega) k2).trans EN
          · obtain ⟨i, rfl⟩ : ∃ k, i = k + 1 := ⟨i - 1, by omega⟩
            have := allL_ok k3 i (by omega)
            rw [Bool.and_eq_true] at this
            refine ⟨?_, (st_tab c hc p (by omega) i (by omega)).2⟩
            have h9 := isE_ok (b := 69) (r := uM r' [Int32.ofInt x]) (show Nat.succ i < 4096 by omega) this.2
            rw [sI_c] at h9
            rw [← hr1]
            exact h9
          · obtain ⟨i, rfl⟩ : ∃ k, i = k + 1 := ⟨i - 1, by omega⟩
            have := allL_ok k3 i (by omega)
            rw [Bool.and_eq_true] at this
            refine ⟨?_, (st_tab c hc p (by omega) i (by omega)).1⟩
            have h9 := isE_ok (b := 69) (r := uM r' [Int32.ofInt x]) (show Nat.succ i < 4096 by omega) this.1
            rw [sI_c] at h9
            rw [← hr1]
            exact h9
        rw [LSt_eq, show List.map (sVal (uM r' [Int32.ofInt x]) al) [.inl (.natCast (nat_lit 1)), .inr (.inr (some (nat_lit 0)))] = ([.ref (al 0), .int (Int32.ofNat 1)] : List Value).reverse ++ [] by simp only [List.map_cons, List.map_nil, sVal, sI_c]; rfl]
        refine hFC.2 164 167 172 15 _ [.ref (al 0), .int (Int32.ofNat 1)] [] _ _ ⟨_, _, rfl, rfl⟩ rfl (by decide) rfl (gRecv_t (by omega) rfl rfl) (gMet_up (d := 10 + nOf c) (by omega) (c_adds l n1 n5 (nOf c) 1 [] r1 N' (by omega) rfl (fun x hx => absurd hx List.not_mem_nil) List.nodup_nil hA1 (fun k hk => absurd hk (by show ¬ k < 0; omega)) hN1)) (fun v2 w2 h => ?_)
        obtain ⟨rfl, r2, j1, -, j3, rfl⟩ := h
        have hk2 := kpC_trans hk1 (kpC_weak chA_St j1)
        have g2 := g_segC (Ch := chS2q) hFC (r := r2) (al := al) (cy := cy) (rest := rest) (by omega) (tM_ok hc) (cC' _ hk2) sPa_nil (dn_oM (c := c) (p := p + 1) (fun k hk => by
          rw [j1.1 _ (dn_pl k hk).1.1 (dn_pl k hk).1.2]
          exact hdn1 k hk)) hqp.2 (fun m0 pc L st pa mm2 hk hp hkp2 => ?_) (fun m0 v pa mm2 hk hp hkp2 => ?_)
        · rw [LSt_eq] at g2
          exact g2
        · have hk3 := kpC_trans hk2 (kpC_weak chS2_St hkp2)
          have hN3 := NF_of (no_num (fun u h => Or.inr (by
            have h2 : u / 4096 ∈ [94] := memB_ok.mp h
            simp at h2 ⊢
            omega))) hkp2 j3
          have bh := behind _ hk3 hN3 (fun k hk6 hne => by
            rw [hkp2.1 _ (dn_pl k hk6).2.1.1 (dn_pl k hk6).2.2, j1.1 _ (dn_pl k hk6).2.1.1 (dn_pl k hk6).2.1.2]
            exact s1 k hk6 hne) (by
            rw [hkp2.1 _ (dn_pl _ h6).2.1.1 (dn_pl _ h6).2.2, j1.1 _ (dn_pl _ h6).2.1.1 (dn_pl _ h6).2.1.2]
            exact s2)
          unfold nxt at hk
          rw [Bool.and_eq_true, Bool.and_eq_true] at hk
          obtain ⟨k5, k6, k7⟩ := hk
          obtain ⟨rfl, rfl, rfl⟩ := kAt_ok k5
          have key := bh.2 (Nat.le_of_ble_eq_true k6) (isDn_ok k7)
          rw [LSt_eq, stSt_eq] at key ⊢
          exact key
        · have hk3 := kpC_trans hk2 (kpC_weak chS2_St hkp2)
          have hN3 := NF_of (no_num (fun u h => Or.inr (by
            have h2 : u / 4096 ∈ [94] := memB_ok.mp h
            simp at h2 ⊢
            omega))) hkp2 j3
          have bh := behind _ hk3 hN3 (fun k hk6 hne => by
            rw [hkp2.1 _ (dn_pl k hk6).2.1.1 (dn_pl k hk6).2.2, j1.1 _ (dn_pl k hk6).2.1.1 (dn_pl k hk6).2.1.2]
            exact s1 k hk6 hne) (by
            rw [hkp2.1 _ (dn_pl _ h6).2.1.1 (dn_pl _ h6).2.2, j1.1 _ (dn_pl _ h6).2.1.1 (dn_pl _ h6).2.1.2]
            exact s2)
          rw [Bool.and_eq_true] at hk
          rw [eqO_ok hk.1]
          exact ⟨rfl, _, hk3, bh.1 (Nat.eq_of_beq_eq_true hk.2), rfl⟩
      · rw [Bool.and_eq_true] at hk
        obtain ⟨a1, a2⟩ := hk
        have hz := paY_ok hp a1
        rw [EN, show sI (uM r' [Int32.ofInt x]) (.natCast (nat_lit 0)) = 0 from sI_c] at hz
        have bh := behind _ hk1 (fun j hj => by rw [adN_zero hz]; exact hN1 j hj) s1 s2
        unfold nxt at a2
        rw [Bool.and_eq_true, Bool.and_eq_true] at a2
        obtain ⟨k5, k6, k7⟩ := a2
        obtain ⟨rfl, rfl, rfl⟩ := kAt_ok k5
        have key := bh.2 (Nat.le_of_ble_eq_true k6) (isDn_ok k7)
        rw [LSt_eq, stSt_eq] at key ⊢
        exact key
    · have hk1 : kpC chSt 69 45 tMv r (eOf 69 (uM r' [Int32.ofInt x]) mm) := kpC_trans (kpC_trans hk' (kpC_uM (by omega))) (kpC_weak chS1_St hkp)
      have hN1 : NF N' (eOf 69 (uM r' [Int32.ofInt x]) mm) := NF_of (no_num (fun u h => chS1_iff.mp h)) (kpC_trans (kpC_uM (by omega)) hkp) hN'
      rw [Bool.and_eq_true, Bool.and_eq_true, Bool.and_eq_true] at hk
      obtain ⟨hs, a1, a2, a3⟩ := hk
      have s1 : ∀ k, k < 6 → k ≠ hiN c p → (eOf 69 (uM r' [Int32.ofInt x]) mm).1 (mP 24 k) = r'.1 (mP 24 k) := fun k hk6 hne => by
        have := isE_ok (b := 69) (r := uM r' [Int32.ofInt x]) (show k < 4096 by omega) (allL_ok hs k hk6)
        rw [show Nat.beq k (hiN c p) = false by
          cases hb : Nat.beq k (hiN c p) with
          | false => rfl
          | true => exact absurd (Nat.eq_of_beq_eq_true hb) hne] at this
        refine this.trans ?_
        show sI _ (.var (380928 + k)) = _
        rw [sI_v, uM_lo (by omega)]
        exact congrArg r'.1 (show 380928 + k = mP 24 k by unfold mP; omega)
      have s2 : (eOf 69 (uM r' [Int32.ofInt x]) mm).1 (mP 24 (hiN c p)) = Int32.ofInt x := by
        have := isE_ok (b := 69) (r := uM r' [Int32.ofInt x]) (show hiN c p < 4096 by omega) (allL_ok hs (hiN c p) h6)
        rw [show Nat.beq (hiN c p) (hiN c p) = true from Nat.beq_refl _] at this
        exact this.trans E0
      have hz := paY_ok hp a1
      rw [EN, show sI (uM r' [Int32.ofInt x]) (.natCast (nat_lit 0)) = 0 from sI_c] at hz
      have bh := behind _ hk1 (fun j hj => by rw [adN_zero hz]; exact hN1 j hj) s1 s2
      rw [eqO_ok a2]
      exact ⟨rfl, _, hk1, bh.1 (Nat.eq_of_beq_eq_true a3), rfl⟩
  | succ m ih =>
    intro p r' N' acc hpm hk' hN' hdn hst hfin
    have hp : p < dOf c := by omega
    obtain ⟨h6, hcd⟩ := hi_tab c hc p hp
    have hq := q_str hc
    unfold strT at hq
    rw [Bool.and_eq_true] at hq
    have hqp := allL_ok hq.2 p hp
    rw [Bool.and_eq_true] at hqp
    rw [LSt_eq, stSt_eq]
    refine hAR.1 137 138 (stc c (hiN c p)) 3125 20 (al 20) _ _ _ _ ⟨_, rfl⟩ hcd (by omega) num_w ?_
    rw [show sInt r' (tMv 20).2.2[stc c (hiN c p)]? = Int32.ofInt (N' (stc c (hiN c p))) from (num_at hcd).trans (hN' _ hcd)]
    generalize hxx : N' (stc c (hiN c p)) = x
    have hw : tW (uM r' [Int32.ofInt x]) al cy rest 45 tMv = tW r' al cy rest 45 tMv := tW_uM (by omega) tMv_can
    have E0 : sI (uM r' [Int32.ofInt x]) (.var (nat_lit 819290)) = Int32.ofInt x := by rw [sI_v]; exact uM_v 0
    have EN : sI (uM r' [Int32.ofInt x]) negE = Int32.ofInt (-x) := by
      show (sD _ (.pow (.neg (.var 819290)) 0)).1 = _
      rw [sD_u]
      show -(sI (uM r' [Int32.ofInt x]) (.var (nat_lit 819290))) = _
      rw [E0, Int32.ofInt_neg]
    have cC' : ∀ r2, kpC chSt 69 45 tMv r r2 → cC 69 45 (tM c) r2 := fun r2 h => kpM_cC hc (kp_St h) hcc
    have cCU : cC 69 45 (tM c) (uM r' [Int32.ofInt x]) := cC' _ (kpC_trans hk' (kpC_uM (by omega)))
    -- what comes behind this round
    have behind : ∀ r'' : sE, kpC chSt 69 45 tMv r r'' → NF (adN (nOf c) (colS c (hiN c p)) (rowS c (hiN c p)) (-x) (nOf c) 1 [] N') r'' → (∀ k, k < 6 → k ≠ hiN c p → r''.1 (mP 24 k) = r'.1 (mP 24 k)) → r''.1 (mP 24 (hiN c p)) = Int32.ofInt x →
        ((p + 1 = dOf c → (∀ k, k < dOf c → r''.1 (mP 24 k) = Int32.ofInt (Fin k))) ∧ (p + 2 ≤ dOf c → (∀ k, k < 6 → r''.1 (mP 25 k) = Int32.ofNat (dnN c (p + 2) k)) → At 137 ((LSt c (p + 1)).map (Option.map (sVal r'' al))) ((stSt c (p + 1)).map (sVal r'' al)) (tW r'' al cy rest 45 tMv))) := fun r'' b1 b2 b3 b4 => by
      have hst2 : ∀ p', p' < p + 1 → r''.1 (mP 24 (hiN c p')) = Int32.ofInt (nuU acc (hiN c p) x (hiN c p')) := fun p' hp' => by
        by_cases he : hiN c p' = hiN c p
        · rw [he, nuU_s]
          exact b4
        · rw [nuU_n he, b3 _ (hi_tab c hc p' (by omega)).1 he]
          refine hst p' ?_
          rcases Nat.lt_or_ge p' p with h | h
          · exact h
          · exact absurd (by rw [show p' = p by omega]) he
      refine ⟨fun he => absurd he (by omega), fun hle hdn2 => ?_⟩
      exact ih (p + 1) r'' _ (nuU acc (hiN c p) x) (by omega) b1 b2 hdn2 hst2 (by rw [← hfin, ← hxx]; rfl)
    have g := g_segC (Ch := chS1) hFC (r := uM r' [Int32.ofInt x]) (al := al) (cy := cy) (rest := rest) (by omega) (tM_ok hc) cCU sPa_nil (dn_oM (fun k hk => by
      rw [uM_lo (by unfold mP; omega)]
      exact hdn k hk)) hqp.1 (fun m0 pc L st pa mm hk hp hkp => ?_) (fun m0 v pa mm hk hp hkp => ?_)
    · rw [hw, LSt_eq, show List.map (sVal (uM r' [Int32.ofInt x]) al) [.inl (.var (nat_lit 819290)), .inl (.natCast (hiN c p)), .inr (.inr (some (nat_lit 24)))] = [.int (Int32.ofInt x), .int (Int32.ofNat (hiN c p)), .ref (al 24)] by simp only [List.map_cons, List.map_nil, sVal, sI_c, E0]] at g
      exact g
    · have hk1 : kpC chSt 69 45 tMv r (eOf 69 (uM r' [Int32.ofInt x]) mm) := kpC_trans (kpC_trans hk' (kpC_uM (by omega))) (kpC_weak chS1_St hkp)
      have hN1 : NF N' (eOf 69 (uM r' [Int32.ofInt x]) mm) := NF_of (no_num (fun u h => chS1_iff.mp h)) (kpC_trans (kpC_uM (by omega)) hkp) hN'
      rw [Bool.and_eq_true] at hk
      obtain ⟨hs, hk⟩ := hk
      have s1 : ∀ k, k < 6 → k ≠ hiN c p → (eOf 69 (uM r' [Int32.ofInt x]) mm).1 (mP 24 k) = r'.1 (mP 24 k) := fun k hk6 hne => by
        have := isE_ok (b := 69) (r := uM r' [Int32.ofInt x]) (show k < 4096 by omega) (allL_ok hs k hk6)
        rw [show Nat.beq k (hiN c p) = false by
          cases hb : Nat.beq k (hiN c p) with
          | false => rfl
          | true => exact absurd (Nat.eq_of_beq_eq_true hb) hne] at this
        refine this.trans ?_
        show sI _ (.var (380928 + k)) = _
        rw [sI_v, uM_lo (by omega)]
        exact congrArg r'.1 (show 380928 + k = mP 24 k by unfold mP; omega)
      have s2 : (eOf 69 (uM r' [Int32.ofInt x]) mm).1 (mP 24 (hiN c p)) = Int32.ofInt x := by
        have := isE_ok (b := 69) (r := uM r' [Int32.ofInt x]) (show hiN c p < 4096 by omega) (allL_ok hs (hiN c p) h6)
        rw [show Nat.beq (hiN c p) (hiN c p) = true from Nat.beq_refl _] at this
        exact this.trans E0
      rw [Bool.or_eq_true] at hk
      rcases hk with hk | hk
      · rw [Bool.and_eq_true] at hk
        obtain ⟨a1, a2⟩ := hk
        rw [Bool.and_eq_true, Bool.and_eq_true, Bool.and_eq_true] at a2
        obtain ⟨k1, k2, k3, k4⟩ := a2
        obtain ⟨rfl, rfl, rfl⟩ := kAt_ok k1
        generalize hr1 : eOf 69 (uM r' [Int32.ofInt x]) mm = r1 at hk1 hN1 s1 s2
        have hdn1 : ∀ k, k < 6 → r1.1 (mP 25 k) = Int32.ofNat (dnN c (p + 1) k) := fun k hk => by rw [← hr1]; exact isDn_ok k4 k hk
        have hA1 : AF (nOf c) (colS c (hiN c p)) (rowS c (hiN c p)) (-x) r1 := by
          refine ⟨?_, ?_, fun i g1 g2 => ?_, fun i g1 g2 => ?_⟩
          · rw [(kp_St hk1).1 _ kpM_regs.1.1 kpM_regs.1.2]
            exact hnr
          · rw [← hr1]
            exact (isE_ok (b := 69) (show 28 < 4096 by omega) k2).trans EN
          · obtain ⟨i, rfl⟩ : ∃ k, i = k + 1 := ⟨i - 1, by omega⟩
            have := allL_ok k3 i (by omega)
            rw [Bool.and_eq_true] at this
            refine ⟨?_, (st_tab c hc p (by omega) i (by omega)).2⟩
            have h9 := isE_ok (b := 69) (r := uM r' [Int32.ofInt x]) (show Nat.succ i < 4096 by omega) this.2
            rw [sI_c] at h9
            rw [← hr1]
            exact h9
          · obtain ⟨i, rfl⟩ : ∃ k, i = k + 1 := ⟨i - 1, by omega⟩
            have := allL_ok k3 i (by omega)
            rw [Bool.and_eq_true] at this
            refine ⟨?_, (st_tab c hc p (by omega) i (by omega)).1⟩
            have h9 := isE_ok (b := 69) (r := uM r' [Int32.ofInt x]) (show Nat.succ i < 4096 by omega) this.1
            rw [sI_c] at h9
            rw [← hr1]
            exact h9
        rw [LSt_eq, show List.map (sVal (uM r' [Int32.ofInt x]) al) [.inl (.natCast (nat_lit 1)), .inr (.inr (some (nat_lit 0)))] = ([.ref (al 0), .int (Int32.ofNat 1)] : List Value).reverse ++ [] by simp only [List.map_cons, List.map_nil, sVal, sI_c]; rfl]
        refine hFC.2 164 167 172 15 _ [.ref (al 0), .int (Int32.ofNat 1)] [] _ _ ⟨_, _, rfl, rfl⟩ rfl (by decide) rfl (gRecv_t (by omega) rfl rfl) (gMet_up (d := 10 + nOf c) (by omega) (c_adds l n1 n5 (nOf c) 1 [] r1 N' (by omega) rfl (fun x hx => absurd hx List.not_mem_nil) List.nodup_nil hA1 (fun k hk => absurd hk (by show ¬ k < 0; omega)) hN1)) (fun v2 w2 h => ?_)
        obtain ⟨rfl, r2, j1, -, j3, rfl⟩ := h
        have hk2 := kpC_trans hk1 (kpC_weak chA_St j1)
        have g2 := g_segC (Ch := chS2q) hFC (r := r2) (al := al) (cy := cy) (rest := rest) (by omega) (tM_ok hc) (cC' _ hk2) sPa_nil (dn_oM (c := c) (p := p + 1) (fun k hk => by
          rw [j1.1 _ (dn_pl k hk).1.1 (dn_pl k hk).1.2]
          exact hdn1 k hk)) hqp.2 (fun m0 pc L st pa mm2 hk hp hkp2 => ?_) (fun m0 v pa mm2 hk hp hkp2 => ?_)
        · rw [LSt_eq] at g2
          exact g2
        · have hk3 := kpC_trans hk2 (kpC_weak chS2_St hkp2)
          have hN3 := NF_of (no_num (fun u h => Or.inr (by
            have h2 : u / 4096 ∈ [94] := memB_ok.mp h
            simp at h2 ⊢
            omega))) hkp2 j3
          have bh := behind _ hk3 hN3 (fun k hk6 hne => by
            rw [hkp2.1 _ (dn_pl k hk6).2.1.1 (dn_pl k hk6).2.2, j1.1 _ (dn_pl k hk6).2.1.1 (dn_pl k hk6).2.1.2]
            exact s1 k hk6 hne) (by
            rw [hkp2.1 _ (dn_pl _ h6).2.1.1 (dn_pl _ h6).2.2, j1.1 _ (dn_pl _ h6).2.1.1 (dn_pl _ h6).2.1.2]
            exact s2)
          unfold nxt at hk
          rw [Bool.and_eq_true, Bool.and_eq_true] at hk
          obtain ⟨k5, k6, k7⟩ := hk
          obtain ⟨rfl, rfl, rfl⟩ := kAt_ok k5
          have key := bh.2 (Nat.le_of_ble_eq_true k6) (isDn_ok k7)
          rw [LSt_eq, stSt_eq] at key ⊢
          exact key
        · have hk3 := kpC_trans hk2 (kpC_weak chS2_St hkp2)
          have hN3 := NF_of (no_num (fun u h => Or.inr (by
            have h2 : u / 4096 ∈ [94] := memB_ok.mp h
            simp at h2 ⊢
            omega))) hkp2 j3
          have bh := behind _ hk3 hN3 (fun k hk6 hne => by
            rw [hkp2.1 _ (dn_pl k hk6).2.1.1 (dn_pl k hk6).2.2, j1.1 _ (dn_pl k hk6).2.1.1 (dn_pl k hk6).2.1.2]
            exact s1 k hk6 hne) (by
            rw [hkp2.1 _ (dn_pl _ h6).2.1.1 (dn_pl _ h6).2.2, j1.1 _ (dn_pl _ h6).2.1.1 (dn_pl _ h6).2.1.2]
            exact s2)
          rw [Bool.and_eq_true] at hk
          rw [eqO_ok hk.1]
          exact ⟨rfl, _, hk3, bh.1 (Nat.eq_of_beq_eq_true hk.2), rfl⟩
      · rw [Bool.and_eq_true] at hk
        obtain ⟨a1, a2⟩ := hk
        have hz := paY_ok hp a1
        rw [EN, show sI (uM r' [Int32.ofInt x]) (.natCast (nat_lit 0)) = 0 from sI_c] at hz
        have bh := behind _ hk1 (fun j hj => by rw [adN_zero hz]; exact hN1 j hj) s1 s2
        unfold nxt at a2
        rw [Bool.and_eq_true, Bool.and_eq_true] at a2
        obtain ⟨k5, k6, k7⟩ := a2
        obtain ⟨rfl, rfl, rfl⟩ := kAt_ok k5
        have key := bh.2 (Nat.le_of_ble_eq_true k6) (isDn_ok k7)
        rw [LSt_eq, stSt_eq] at key ⊢
        exact key
    · have hk1 : kpC chSt 69 45 tMv r (eOf 69 (uM r' [Int32.ofInt x]) mm) := kpC_trans (kpC_trans hk' (kpC_uM (by omega))) (kpC_weak chS1_St hkp)
      have hN1 : NF N' (eOf 69 (uM r' [Int32.ofInt x]) mm) := NF_of (no_num (fun u h => chS1_iff.mp h)) (kpC_trans (kpC_uM (by omega)) hkp) hN'
      rw [Bool.and_eq_true, Bool.and_eq_true, Bool.and_eq_true] at hk
      obtain ⟨hs, a1, a2, a3⟩ := hk
      have s1 : ∀ k, k < 6 → k ≠ hiN c p → (eOf 69 (uM r' [Int32.ofInt x]) mm).1 (mP 24 k) = r'.1 (mP 24 k) := fun k hk6 hne => by
        have := isE_ok (b := 69) (r := uM r' [Int32.ofInt x]) (show k < 4096 by omega) (allL_ok hs k hk6)
        rw [show Nat.beq k (hiN c p) = false by
          cases hb : Nat.beq k (hiN c p) with
          | false => rfl
          | true => exact absurd (Nat.eq_of_beq_eq_true hb) hne] at this
        refine this.trans ?_
        show sI _ (.var (380928 + k)) = _
        rw [sI_v, uM_lo (by omega)]
        exact congrArg r'.1 (show 380928 + k = mP 24 k by unfold mP; omega)
      have s2 : (eOf 69 (uM r' [Int32.ofInt x]) mm).1 (mP 24 (hiN c p)) = Int32.ofInt x := by
        have := isE_ok (b := 69) (r := uM r' [Int32.ofInt x]) (show hiN c p < 4096 by omega) (allL_ok hs (hiN c p) h6)
        rw [show Nat.beq (hiN c p) (hiN c p) = true from Nat.beq_refl _] at this
        exact this.trans E0
      have hz := paY_ok hp a1
      rw [EN, show sI (uM r' [Int32.ofInt x]) (.natCast (nat_lit 0)) = 0 from sI_c] at hz
      have bh := behind _ hk1 (fun j hj => by rw [adN_zero hz]; exact hN1 j hj) s1 s2
      rw [eqO_ok a2]
      exact ⟨rfl, _, hk1, bh.1 (Nat.eq_of_beq_eq_true a3), rfl⟩
end ST
