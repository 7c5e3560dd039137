/-! 98za: read: the model; what it looks at, opens, fails at, turns (by wip/whole/mk98za.py) -/
theorem gMet_ofL {D : va_G} {cy : Nat → ClassId} {al : Nat → Nat} {l : Launch} {d k : Nat} {w : va_W} {r : sE} {as : List sV} {L0 : sL} {G : Option Value → va_W → Prop} (hE : sEnt as (PG k).2.1 (fun L => eqL eqO L L0) = true)
    (h : ∀ At : gAt, (∀ d2, d2 ≤ d → gFC l D cy al k d2 G At) → gLD k At → At 0 (L0.map (Option.map (sVal r al))) [] w) : gMet l D cy al d k w (as.map (sVal r al)) G := by
  intro sz
  obtain ⟨⟨c1, c2, c3, c4, c5, c6, c7, c8⟩, -⟩ := sGood_ok k
  refine Met.ofW (cc := (MI k).2.1) (maxL := (MI k).2.2.1) (ret := (MI k).2.2.2) c4 rfl ?_
  intro p e s m args below meth c s₁ B hml hv
  obtain ⟨rfl, hsz, hP, hK, hD0, hst, hNw⟩ := hv
  subst hsz
  have hts := atoms_spec (ws := Cond.code (MI k).1 (MI k).2.1 (MI k).2.2.1 (MI k).2.2.2 :: sTb) B.pre
  have hown : s.vm.findClass (MI k).1.cls = some m.cls := findClass_of_methodNamed B.named
  have hD := hD0.self (sz := s.heap.size)
  have hA : ∀ q : Nat, s.heap.size ≤ q → va_A w s.heap.size q := fun q h => Or.inr h
  obtain ⟨L, h1, h2, h3, h4⟩ := sEnt_ok (r := r) (al := al) _ _ _ hE
  have eL : L = L0 := eqL_ok (fun _ _ => eqO_ok) _ _ h1
  subst eL
  rw [c5] at h2 h3
  have hl := lv_entry (as.map (sVal r al)) (n := (MI k).2.2.1) h3
  rw [lg_entry_eq]
  generalize (lg_sl (as.map (sVal r al)) ++ List.replicate ((MI k).2.2.1 - (lg_sl (as.map (sVal r al))).length) Slot.unset).toArray = ls at hl ⊢
  have hlo : sLo r al ls (MI k).2.2.1 L := ⟨hl.1, hl.2.1, fun i v q => hl.2.2 (i, sVal r al v) (by have := h4 0 i v q; rwa [Nat.zero_add] at this), h2⟩
  have X : ∀ d2, d2 ≤ d → sCtx MI k d2 D cy al (va_A w s.heap.size) p (headSpec (Cond.code (MI k).1 (MI k).2.1 (MI k).2.2.1 (MI k).2.2.2 :: sTb) (sRm d)).room s m (as.map (sVal r al)).toArray meth c := fun d2 h2 =>
    ⟨B.exec, B.bytes, hml, hown, fun w h => hts w (List.mem_cons_of_mem _ h), hNw, hK, hst, hA, Nat.succ_le_succ h2, Nat.mul_le_mul_left 64 (Nat.succ_le_succ h2), B.returns, B.notSynchronized⟩
  refine h _ (fun d2 h2 => g_rules (p := p) (e := e) (below := below) (Qc := gQc D cy (va_A w s.heap.size) G) (free := va_A w s.heap.size) (X d2 h2) ?_ (fun q h => h)) (g_rulesD (X d (Nat.le_refl _))) s.heap [] ls hP hD va_S.rf (gLo_iff.mpr hlo)
  intro v w2 H1 locs1 q1 q2 q3 q4 t ht hw
  exact ⟨⟨v, w2, q1, rfl, by rw [ht]; exact q2, va_K.moved hw.alike hK, q3⟩, q4.F ht⟩
def subR (big : List (Nat × Nat)) : List (Nat × Nat) → Prop
  | [] => True
  | (a, b) :: l => (∃ c e, (c, e) ∈ big ∧ c ≤ a ∧ b ≤ e) ∧ subR big l
theorem subR_ok {big : List (Nat × Nat)} : ∀ {l : List (Nat × Nat)}, subR big l → ∀ x ∈ l, ∃ y ∈ big, y.1 ≤ x.1 ∧ x.2 ≤ y.2
  | [], _, x, hx => nomatch hx
  | (a, b) :: l, h, x, hx => by
    rcases List.mem_cons.mp hx with rfl | hx
    · obtain ⟨c, e, h1, h2, h3⟩ := h.1
      exact ⟨(c, e), h1, h2, h3⟩
    · exact subR_ok h.2 x hx
theorem cRg_w {big l : List (Nat × Nat)} {b n : Nat} {tv : Nat → sC} {r r1 : sE} (h : kpC (cRg l) b n tv r r1) (hl : subR big l) : kpC (cRg big) b n tv r r1 := chR_w (subR_ok hl) h
/-- what may change: where it goes well; where it fails -/
def CHS : List (Nat × Nat) := [(282666, 282666), (282669, 282670), (348160, 348165), (360448, 360453), (421888, 426073), (438272, 442373)]
def CHF : List (Nat × Nat) := [(282666, 282666), (282669, 282670), (348160, 348165), (360448, 360453), (421888, 426073), (438272, 442373), (282673, 282673), (430080, 434265)]
theorem CHS_F {r r1 : sE} (h : kpC (cRg CHS) 69 45 tMv r r1) : kpC (cRg CHF) 69 45 tMv r r1 := chR_w (fun x hx => ⟨x, by simp only [CHS, List.mem_cons, List.not_mem_nil, or_false] at hx; rcases hx with rfl | rfl | rfl | rfl | rfl | rfl <;> simp [CHF], Nat.le_refl _, Nat.le_refl _⟩) h
theorem vM_0 : ∀ j ∈ [1, 41, 42, 45, 46, 49, 50], isV 69 45 tMv (mP 0 j) = true := lAll_ok (show lAll (fun j => isV (nat_lit 69) (nat_lit 45) tMv (Nat.add (nat_lit 282624) j)) [nat_lit 1, nat_lit 41, nat_lit 42, nat_lit 45, nat_lit 46, nat_lit 49, nat_lit 50] = true by decide +kernel)
theorem vM_r : (∀ i, i < 80 → isV 69 45 tMv (mP 33 i) = true) ∧ (∀ i, i < 81 → isV 69 45 tMv (mP 34 i) = true ∧ isV 69 45 tMv (mP 35 i) = true ∧ isV 69 45 tMv (mP 36 i) = true ∧ isV 69 45 tMv (mP 37 i) = true) ∧ (∀ i, i < 24 → isV 69 45 tMv (mP 38 i) = true) ∧ ∀ i, i < 6 → isV 69 45 tMv (mP 39 i) = true ∧ isV 69 45 tMv (mP 19 i) = true ∧ isV 69 45 tMv (mP 16 i) = true := by
  have h1 := allL_ok (show allL 80 (fun i => isV (nat_lit 69) (nat_lit 45) tMv (Nat.add (nat_lit 417792) i)) = true by decide +kernel)
  have h2 := allL_ok (show allL 81 (fun i => Bool.and (Bool.and (isV (nat_lit 69) (nat_lit 45) tMv (Nat.add (nat_lit 421888) i)) (isV (nat_lit 69) (nat_lit 45) tMv (Nat.add (nat_lit 425984) i))) (Bool.and (isV (nat_lit 69) (nat_lit 45) tMv (Nat.add (nat_lit 430080) i)) (isV (nat_lit 69) (nat_lit 45) tMv (Nat.add (nat_lit 434176) i)))) = true by decide +kernel)
  have h3 := allL_ok (show allL 24 (fun i => isV (nat_lit 69) (nat_lit 45) tMv (Nat.add (nat_lit 438272) i)) = true by decide +kernel)
  have h4 := allL_ok (show allL 6 (fun i => Bool.and (isV (nat_lit 69) (nat_lit 45) tMv (Nat.add (nat_lit 442368) i)) (Bool.and (isV (nat_lit 69) (nat_lit 45) tMv (Nat.add (nat_lit 360448) i)) (isV (nat_lit 69) (nat_lit 45) tMv (Nat.add (nat_lit 348160) i)))) = true by decide +kernel)
  refine ⟨fun i hi => h1 i hi, fun i hi => ?_, fun i hi => h3 i hi, fun i hi => ?_⟩
  · have g := h2 i hi
    simp only [Bool.and_eq_true] at g
    exact ⟨g.1.1, g.1.2, g.2.1, g.2.2⟩
  · have g := h4 i hi
    simp only [Bool.and_eq_true] at g
    exact ⟨g.1, g.2.1, g.2.2⟩
def le5 (r : sE) (u : Nat) : Prop := ∃ k, k ≤ 5 ∧ r.1 u = Int32.ofNat k
def MOp (r : sE) (O : txT) : Prop := r.1 (mP 0 45) = Int32.ofNat O.length ∧ rwT (mP 34 0) (mP 35 0) r O
def WHM (r : sE) (T : txT) : Prop := r.1 (mP 0 49) = Int32.ofNat T.length ∧ rwT (mP 36 0) (mP 37 0) r T
/-- the text and what is asked of it -/
def TMr (n z w : Nat) (B : Nat → Nat) (r : sE) : Prop := r.1 (mP 0 1) = Int32.ofNat n ∧ r.1 (mP 0 41) = Int32.ofNat z ∧ r.1 (mP 0 50) = Int32.ofNat w ∧ ∀ i, i < z → r.1 (mP 33 i) = Int32.ofNat (B i)
def W5 (r : sE) (k : Nat) : Prop := ∀ i, i < 24 → (i % 6 = 0 ∨ i < 6 * k) → le5 r (mP 38 0 + i)
theorem W5_mono {r : sE} {a b : Nat} (h : a ≤ b) (hw : W5 r b) : W5 r a := fun i hi hc => hw i hi (by omega)
def L5 (r : sE) : Prop := ∀ i, i < 5 → le5 r (mP 19 1 + i)
def MSt (n z w : Nat) (B : Nat → Nat) (r : sE) (p : Nat) (O : txT) (b k : Nat) : Prop := TMr n z w B r ∧ r.1 (mP 0 42) = Int32.ofNat p ∧ MOp r O ∧ r.1 (mP 0 46) = Int32.ofNat b ∧ W5 r k ∧ L5 r
def PRt (n w : Nat) (r : sE) (o : List Nat) : Prop := (∀ i, i < 5 → le5 r (mP 39 1 + i)) ∧ (w = 1 → o ∈ ordN n ∧ ∀ i, i < 5 → r.1 (mP 39 1 + i) = Int32.ofNat (nthO o i))
def txB (z : Nat) (B : Nat → Nat) (p : Nat) : Nat := if p < z then B p else 0
theorem txB_lt {z p : Nat} {B : Nat → Nat} (hB : ∀ i, i < z → B i < 127) : txB z B p < 127 := by
  unfold txB
  split
  · exact hB _ (by assumption)
  · omega
-- what stands
theorem TMr_st {n z w : Nat} {B : Nat → Nat} {r r1 : sE} {l : List (Nat × Nat)} (hz : z ≤ 80) (h : kpC (cRg l) 69 45 tMv r r1) (h1 : outR (mP 0 1) l) (h2 : outR (mP 0 41) l) (h3 : outR (mP 0 50) l) (h4 : ∀ i, i < 80 → outR (mP 33 i) l) (hT : TMr n z w B r) : TMr n z w B r1 := ⟨(kpR h (vM_0 1 (by simp)) h1).trans hT.1, (kpR h (vM_0 41 (by simp)) h2).trans hT.2.1, (kpR h (vM_0 50 (by simp)) h3).trans hT.2.2.1, fun i hi => (kpR h (vM_r.1 i (by omega)) (h4 i (by omega))).trans (hT.2.2.2 i hi)⟩
theorem rwMo_st {r r1 : sE} {O : txT} {l : List (Nat × Nat)} (h : kpC (cRg l) 69 45 tMv r r1) (hT : O.length ≤ 81) (h1 : ∀ i, i < O.length → outR (mP 34 i) l ∧ outR (mP 35 i) l) (hw : rwT (mP 34 0) (mP 35 0) r O) : rwT (mP 34 0) (mP 35 0) r1 O := rwT_cp (fun i hi => by
  have a1 := kpR h (vM_r.2.1 i (by omega)).1 (h1 i (by omega)).1
  have a2 := kpR h (vM_r.2.1 i (by omega)).2.1 (h1 i (by omega)).2
  exact ⟨by rw [show mP 34 0 + i = mP 34 i by unfold mP; omega]; exact a1, by rw [show mP 35 0 + i = mP 35 i by unfold mP; omega]; exact a2⟩) hw
theorem MOp_st {r r1 : sE} {O : txT} {l : List (Nat × Nat)} (h : kpC (cRg l) 69 45 tMv r r1) (hT : O.length ≤ 81) (h0 : outR (mP 0 45) l) (h1 : ∀ i, i < O.length → outR (mP 34 i) l ∧ outR (mP 35 i) l) (hw : MOp r O) : MOp r1 O := ⟨(kpR h (vM_0 45 (by simp)) h0).trans hw.1, rwMo_st h hT h1 hw.2⟩
theorem le5_st {r r1 : sE} {u : Nat} (h : r1.1 u = r.1 u) (hl : le5 r u) : le5 r1 u := by
  obtain ⟨k, k1, k2⟩ := hl
  exact ⟨k, k1, h.trans k2⟩
theorem W5_st {k : Nat} {r r1 : sE} {l : List (Nat × Nat)} (h : kpC (cRg l) 69 45 tMv r r1) (h1 : ∀ i, i < 24 → outR (mP 38 i) l) (hw : W5 r k) : W5 r1 k := fun i hi hc => le5_st (by
  have := kpR h (vM_r.2.2.1 i hi) (h1 i hi)
  rw [show mP 38 0 + i = mP 38 i by unfold mP; omega]
  exact this) (hw i hi hc)
theorem L5_st {r r1 : sE} {l : List (Nat × Nat)} (h : kpC (cRg l) 69 45 tMv r r1) (h1 : ∀ i, i < 5 → outR (mP 19 (1 + i)) l) (hw : L5 r) : L5 r1 := fun i hi => le5_st (by
  have := kpR h (vM_r.2.2.2 (1 + i) (by omega)).2.1 (h1 i hi)
  rw [show mP 19 1 + i = mP 19 (1 + i) by unfold mP; omega]
  exact this) (hw i hi)
theorem PRt_st {n w : Nat} {r r1 : sE} {o : List Nat} {l : List (Nat × Nat)} (h : kpC (cRg l) 69 45 tMv r r1) (h1 : ∀ i, i < 5 → outR (mP 39 (1 + i)) l) (hw : PRt n w r o) : PRt n w r1 o := by
  have key : ∀ i, i < 5 → r1.1 (mP 39 1 + i) = r.1 (mP 39 1 + i) := fun i hi => by
    have := kpR h (vM_r.2.2.2 (1 + i) (by omega)).1 (h1 i hi)
    rw [show mP 39 1 + i = mP 39 (1 + i) by unfold mP; omega]
    exact this
  exact ⟨fun i hi => le5_st (key i hi) (hw.1 i hi), fun q => ⟨(hw.2 q).1, fun i hi => (key i hi).trans ((hw.2 q).2 i hi)⟩⟩
theorem q_heE : sEnt [.inr (.inr (some (nat_lit 0)))] (PG (nat_lit 213)).2.1 (fun L => eqL eqO L [some (.inr (.inr (some (nat_lit 0))))]) = true := by decide +kernel
theorem q_he1 : allL 80 (fun p => sBeg (nat_lit 69) (nat_lit 45) tMv (memB [(nat_lit 0), (nat_lit 33)]) [((nat_lit 0), (nat_lit 42), (.natCast p))] (fun m0 => sx PG (nat_lit 500) (nat_lit 3) (PG (nat_lit 213)) (fun _ => false) (fun pc L st _ m => Bool.and (eqL eqC m m0) false) (fun v _ m => Bool.and (eqL eqC m m0) (eqO v (some (.inl (.var (Nat.add (nat_lit 417792) p)))))) (nat_lit 0) [some (.inr (.inr (some (nat_lit 0))))] [] [(false, true, .natCast p, (.var (nat_lit 282665)))] m0)) = true := by decide +kernel
theorem q_he0 : allL 81 (fun p => sBeg (nat_lit 69) (nat_lit 45) tMv (memB [(nat_lit 0), (nat_lit 33)]) [((nat_lit 0), (nat_lit 42), (.natCast p))] (fun m0 => sx PG (nat_lit 500) (nat_lit 3) (PG (nat_lit 213)) (fun _ => false) (fun pc L st _ m => Bool.and (eqL eqC m m0) false) (fun v _ m => Bool.and (eqL eqC m m0) (eqO v (some (.inl (.natCast (nat_lit 0)))))) (nat_lit 0) [some (.inr (.inr (some (nat_lit 0))))] [] [(false, false, .natCast p, (.var (nat_lit 282665)))] m0)) = true := by decide +kernel
theorem q_fiE : sEnt [.inr (.inr (some (nat_lit 0)))] (PG (nat_lit 216)).2.1 (fun L => eqL eqO L [some (.inr (.inr (some (nat_lit 0))))]) = true := by decide +kernel
theorem q_fi0 : sx PG (nat_lit 20) (nat_lit 4) (PG (nat_lit 216)) (fun pc => Nat.beq pc (nat_lit 1)) (fun pc L st _ m => Bool.and (eqL eqC m []) (kAt (nat_lit 1) [some (.inr (.inr (some (nat_lit 0))))] [.inr (.inr (some (nat_lit 0)))] pc L st)) (fun _ _ m => Bool.and (eqL eqC m []) false) (nat_lit 0) [some (.inr (.inr (some (nat_lit 0))))] [] [] [] = true := by decide +kernel
noncomputable def isF (c : Nat) : Nat := Bool.rec (motive := fun _ => Nat) (nat_lit 0) (nat_lit 1) (Bool.and (Nat.ble (nat_lit 49) c) (Nat.ble c (nat_lit 53)))
theorem q_fi1 : allL 127 (fun c => sx PG (nat_lit 100) (nat_lit 4) (PG (nat_lit 216)) (fun _ => false) (fun _ _ _ _ _ => false) (fun v0 _ m => Bool.and (eqL eqC m []) (eqO v0 (some (.inl (.natCast (isF c)))))) (nat_lit 4) [some (.inr (.inr (some (nat_lit 0))))] [.inl (.natCast c)] [] []) = true := by decide +kernel
theorem q_op : allL 81 (fun k => sBeg (nat_lit 69) (nat_lit 45) tMv (memB [(nat_lit 0), (nat_lit 34), (nat_lit 35)]) [((nat_lit 0), (nat_lit 45), (.natCast k))] (fun m0 => sRun (nat_lit 3000) (nat_lit 3) (nat_lit 214) [] m0 [.inr (.inr (some (nat_lit 0))), .inl (.var (nat_lit 819290)), .inl (.var (nat_lit 819291))] (fun v _ m => Bool.and (sKC (cRg [(nat_lit 282669, nat_lit 282669), (Nat.add (nat_lit 421888) k, Nat.add (nat_lit 421888) k), (Nat.add (nat_lit 425984) k, Nat.add (nat_lit 425984) k)]) (nat_lit 69) (nat_lit 45) tMv (memB [(nat_lit 0), (nat_lit 34), (nat_lit 35)]) m0 m) (Bool.and (eqO v none) (Bool.and (isE m (nat_lit 0) (nat_lit 45) (.natCast (Nat.succ k))) (Bool.and (isE m (nat_lit 34) k (.var (nat_lit 819290))) (isE m (nat_lit 35) k (.var (nat_lit 819291))))))))) = true := by decide +kernel
noncomputable def flQ (k : Nat) : Bool := sBeg (nat_lit 69) (nat_lit 45) tMv (memB [(nat_lit 0), (nat_lit 34), (nat_lit 35), (nat_lit 36), (nat_lit 37)]) [((nat_lit 0), (nat_lit 45), (.natCast k))] (fun m0 => sRun (nat_lit 5000) (nat_lit 4) (nat_lit 215) [] m0 [.inr (.inr (some (nat_lit 0))), .inl (.var (nat_lit 819290)), .inl (.var (nat_lit 819291))] (fun v _ m => Bool.and (sKC (cRg [((nat_lit 282669), (nat_lit 282669)), ((nat_lit 421888), (nat_lit 426073)), ((nat_lit 282673), (nat_lit 282673)), ((nat_lit 430080), (nat_lit 434265))]) (nat_lit 69) (nat_lit 45) tMv (memB [(nat_lit 0), (nat_lit 34), (nat_lit 35), (nat_lit 36), (nat_lit 37)]) m0 m) (Bool.and (eqO v (some (.inl (.natCast (nat_lit 0))))) (Bool.and (isE m (nat_lit 0) (nat_lit 49) (.natCast (Nat.succ k))) (Bool.and (isE m (nat_lit 36) k (.var (nat_lit 819290))) (Bool.and (isE m (nat_lit 37) k (.var (nat_lit 819291))) (allL k (fun i => Bool.and (isE m (nat_lit 36) i (.var (Nat.add (nat_lit 421888) i))) (isE m (nat_lit 37) i (.var (Nat.add (nat_lit 425984) i)))))))))))
theorem q_fl0 : allL 30 (fun k => flQ (Nat.add (nat_lit 0) k)) = true := by decide +kernel
theorem q_fl1 : allL 17 (fun k => flQ (Nat.add (nat_lit 30) k)) = true := by decide +kernel
theorem q_fl2 : allL 13 (fun k => flQ (Nat.add (nat_lit 47) k)) = true := by decide +kernel
theorem q_fl3 : allL 11 (fun k => flQ (Nat.add (nat_lit 60) k)) = true := by decide +kernel
theorem q_fl4 : allL 10 (fun k => flQ (Nat.add (nat_lit 71) k)) = true := by decide +kernel
theorem q_fl {k : Nat} (hk : k < 81) : flQ k = true := by
  rcases (show k < 30 ∨ (30 ≤ k ∧ k < 47) ∨ (47 ≤ k ∧ k < 60) ∨ (60 ≤ k ∧ k < 71) ∨ 71 ≤ k by omega) with h | h | h | h | h
  · have := allL_ok q_fl0 (k - 0) (by omega)
    rw [show Nat.add 0 (k - 0) = k by show 0 + (k - 0) = k; omega] at this
    exact this
  · have := allL_ok q_fl1 (k - 30) (by omega)
    rw [show Nat.add 30 (k - 30) = k by show 30 + (k - 30) = k; omega] at this
    exact this
  · have := allL_ok q_fl2 (k - 47) (by omega)
    rw [show Nat.add 47 (k - 47) = k by show 47 + (k - 47) = k; omega] at this
    exact this
  · have := allL_ok q_fl3 (k - 60) (by omega)
    rw [show Nat.add 60 (k - 60) = k by show 60 + (k - 60) = k; omega] at this
    exact this
  · have := allL_ok q_fl4 (k - 71) (by omega)
    rw [show Nat.add 71 (k - 71) = k by show 71 + (k - 71) = k; omega] at this
    exact this
theorem q_tnG : lAll (fun p => sBeg (nat_lit 69) (nat_lit 45) tMv (memB [(nat_lit 0), (nat_lit 19), (nat_lit 39)]) [((nat_lit 39), (nat_lit 1), .natCast (nthO p (nat_lit 0))), ((nat_lit 39), (nat_lit 2), .natCast (nthO p (nat_lit 1))), ((nat_lit 39), (nat_lit 3), .natCast (nthO p (nat_lit 2))), ((nat_lit 39), (nat_lit 4), .natCast (nthO p (nat_lit 3))), ((nat_lit 39), (nat_lit 5), .natCast (nthO p (nat_lit 4)))] (fun m0 => sRun (nat_lit 3000) (nat_lit 3) (nat_lit 219) [] m0 [.inr (.inr (some (nat_lit 0)))] (fun v _ m => Bool.and (sKC (cRg [((nat_lit 360449), (nat_lit 360453)), ((nat_lit 442369), (nat_lit 442373))]) (nat_lit 69) (nat_lit 45) tMv (memB [(nat_lit 0), (nat_lit 19), (nat_lit 39)]) m0 m) (Bool.and (eqO v none) (allL 5 (fun i => Bool.and (isE m (nat_lit 39) (Nat.succ i) (.natCast (nthO (invO p) i))) (isE m (nat_lit 19) (Nat.succ i) (.natCast (nthO (invO p) i))))))))) ORDS = true := by decide +kernel
theorem q_tnE : sEnt [.inr (.inr (some (nat_lit 0)))] (PG (nat_lit 219)).2.1 (fun L => eqL eqO L [some (.inr (.inr (some (nat_lit 0)))), none]) = true := by decide +kernel
theorem q_tn0 : sx PG (nat_lit 20) (nat_lit 3) (PG (nat_lit 219)) (fun pc => Nat.beq pc (nat_lit 7)) (fun pc L st _ m => Bool.and (eqL eqC m []) (kAt (nat_lit 7) [some (.inr (.inr (some (nat_lit 0)))), some (.inl (.natCast (nat_lit 1)))] [] pc L st)) (fun _ _ m => Bool.and (eqL eqC m []) false) (nat_lit 0) [some (.inr (.inr (some (nat_lit 0)))), none] [] [] [] = true := by decide +kernel
theorem q_tnA : allL 5 (fun i => allL 6 (fun v => sBeg (nat_lit 69) (nat_lit 45) tMv (memB [(nat_lit 0), (nat_lit 19), (nat_lit 39)]) [((nat_lit 39), (Nat.succ i), (.natCast v))] (fun m0 => sx PG (nat_lit 2000) (nat_lit 3) (PG (nat_lit 219)) (fun pc => memB [(nat_lit 2)] pc) (fun pc L st _ m => Bool.and (sKC (cRg [(Nat.add (nat_lit 360448) v, Nat.add (nat_lit 360448) v)]) (nat_lit 69) (nat_lit 45) tMv (memB [(nat_lit 0), (nat_lit 19), (nat_lit 39)]) m0 m) (Bool.and (kAt (nat_lit 2) [some (.inr (.inr (some (nat_lit 0)))), some (.inl (.natCast (Nat.succ (Nat.succ i))))] [] pc L st) (isE m (nat_lit 19) v (.natCast (Nat.succ i))))) (fun v9 _ m => Bool.and (sKC (cRg [(Nat.add (nat_lit 360448) v, Nat.add (nat_lit 360448) v)]) (nat_lit 69) (nat_lit 45) tMv (memB [(nat_lit 0), (nat_lit 19), (nat_lit 39)]) m0 m) false) (nat_lit 7) [some (.inr (.inr (some (nat_lit 0)))), some (.inl (.natCast (Nat.succ i)))] [] [] m0))) = true := by decide +kernel
theorem q_tnB : allL 4 (fun i => sx PG (nat_lit 20) (nat_lit 3) (PG (nat_lit 219)) (fun pc => Nat.beq pc (nat_lit 7)) (fun pc L st _ m => Bool.and (eqL eqC m []) (kAt (nat_lit 7) [some (.inr (.inr (some (nat_lit 0)))), some (.inl (.natCast (Nat.succ (Nat.succ i))))] [] pc L st)) (fun _ _ m => Bool.and (eqL eqC m []) false) (nat_lit 2) [some (.inr (.inr (some (nat_lit 0)))), some (.inl (.natCast (Nat.succ (Nat.succ i))))] [] [] []) = true := by decide +kernel
theorem q_tnC : sBeg (nat_lit 69) (nat_lit 45) tMv (memB [(nat_lit 0), (nat_lit 19), (nat_lit 39)]) [] (fun m0 => sx PG (nat_lit 2000) (nat_lit 3) (PG (nat_lit 219)) (fun _ => false) (fun pc L st _ m => Bool.and (sKC (cRg [((nat_lit 442369), (nat_lit 442373))]) (nat_lit 69) (nat_lit 45) tMv (memB [(nat_lit 0), (nat_lit 19), (nat_lit 39)]) m0 m) false) (fun v _ m => Bool.and (sKC (cRg [((nat_lit 442369), (nat_lit 442373))]) (nat_lit 69) (nat_lit 45) tMv (memB [(nat_lit 0), (nat_lit 19), (nat_lit 39)]) m0 m) (Bool.and (eqO v none) (allL 5 (fun i => isE m (nat_lit 39) (Nat.succ i) (.var (Nat.add (nat_lit 360449) i)))))) (nat_lit 2) [some (.inr (.inr (some (nat_lit 0)))), some (.inl (.natCast (nat_lit 6)))] [] [] m0) = true := by decide +kernel
section RM
variable {D : va_G} {cy : Nat → ClassId} {al : Nat → Nat} {rest : va_W}
theorem isF_ok {c : Nat} : (isF c = 1 ∧ 49 ≤ c ∧ c ≤ 53) ∨ (isF c = 0 ∧ ¬ (49 ≤ c ∧ c ≤ 53)) := by
  unfold isF
  cases h : Bool.and (Nat.ble 49 c) (Nat.ble c 53) with
  | true =>
    rw [Bool.and_eq_true] at h
    exact Or.inl ⟨rfl, Nat.le_of_ble_eq_true h.1, Nat.le_of_ble_eq_true h.2⟩
  | false =>
    refine Or.inr ⟨rfl, fun g => ?_⟩
    rw [Nat.ble_eq_true_of_le g.1, Nat.ble_eq_true_of_le g.2] at h
    cases h
theorem c_here (l : Launch) {r : sE} {n z w p d : Nat} {B : Nat → Nat} (hd : 3 ≤ d) (hz : z ≤ 80) (hp : p ≤ z) (hT : TMr n z w B r) (ha : r.1 (mP 0 42) = Int32.ofNat p) : gMet l D cy al d 213 (tW r al cy rest 45 tMv) [.ref (al 0)] (fun v w2 => v = some (.int (Int32.ofNat (txB z B p))) ∧ w2 = tW r al cy rest 45 tMv) := by
  refine gMet_up hd ?_
  have key := gMet_of (l := l) (D := D) (cy := cy) (al := al) (d := 3) (k := 213) (w := tW r al cy rest 45 tMv) (r := uM r []) (G := fun v w2 => v = some (.int (Int32.ofNat (txB z B p))) ∧ w2 = tW r al cy rest 45 tMv) q_heE (fun At hFC => ?_)
  · simp only [List.map_cons, List.map_nil, sVal] at key
    exact key
  by_cases h : p < z
  · have g := g_segV hFC (r := r) (vs := []) (al := al) (cy := cy) (rest := rest) (by omega) tMv_ok cC_M (sPa_cons.mpr ⟨(sKd_t (e := false)).mpr (by
      show sI _ (.natCast p) < sI _ (.var (nat_lit 282665))
      rw [uMv (by decide), sI_c, show r.1 282665 = Int32.ofNat z from hT.2.1, lt80 (by omega) (by omega)]
      exact h), sPa_nil⟩) (oM_cons (uMc (by decide) ha) oM_nil) (allL_ok q_he1 p (by omega)) (fun pc L st pa hk1 => nomatch hk1) (fun v pa hk1 hp1 => ?_)
    · exact g
    refine ⟨?_, rfl⟩
    rw [eqO_ok hk1]
    show some (Value.int (sI _ _)) = _
    rw [uMv (show Nat.add 417792 p < 819290 by show 417792 + p < 819290; omega), show r.1 (Nat.add 417792 p) = Int32.ofNat (B p) from hT.2.2.2 p h]
    unfold txB
    rw [if_pos h]
  · have g := g_segV hFC (r := r) (vs := []) (al := al) (cy := cy) (rest := rest) (by omega) tMv_ok cC_M (sPa_cons.mpr ⟨(sKd_f (e := false)).mpr (fun h2 => by
      have h3 : sI _ (.natCast p) < sI _ (.var (nat_lit 282665)) := h2
      rw [uMv (by decide), sI_c, show r.1 282665 = Int32.ofNat z from hT.2.1, lt80 (by omega) (by omega)] at h3
      exact h h3), sPa_nil⟩) (oM_cons (uMc (by decide) ha) oM_nil) (allL_ok q_he0 p (by omega)) (fun pc L st pa hk1 => nomatch hk1) (fun v pa hk1 hp1 => ?_)
    · exact g
    refine ⟨?_, rfl⟩
    rw [vI_ok hk1]
    unfold txB
    rw [if_neg h]
theorem c_fig (l : Launch) {r : sE} {n z w p d : Nat} {B : Nat → Nat} (hd : 4 ≤ d) (hz : z ≤ 80) (hp : p ≤ z) (hB : ∀ i, i < z → B i < 127) (hT : TMr n z w B r) (ha : r.1 (mP 0 42) = Int32.ofNat p) : gMet l D cy al d 216 (tW r al cy rest 45 tMv) [.ref (al 0)] (fun v w2 => v = some (.int (Int32.ofNat (isF (txB z B p)))) ∧ w2 = tW r al cy rest 45 tMv) := by
  refine gMet_up hd ?_
  have key := gMet_of (l := l) (D := D) (cy := cy) (al := al) (d := 4) (k := 216) (w := tW r al cy rest 45 tMv) (r := uM r []) (G := fun v w2 => v = some (.int (Int32.ofNat (isF (txB z B p)))) ∧ w2 = tW r al cy rest 45 tMv) q_fiE (fun At hFC => ?_)
  · simp only [List.map_cons, List.map_nil, sVal] at key
    exact key
  have g := g_pure hFC (r := uM r []) (al := al) (w := tW r al cy rest 45 tMv) sPa_nil q_fi0 (fun pc L st hk => ?_) (fun v hk => nomatch hk)
  · exact g
  obtain ⟨rfl, rfl, rfl⟩ := kAt_ok hk
  refine hFC.2 1 4 213 3 _ [.ref (al 0)] [] _ _ ⟨_, _, rfl, rfl⟩ rfl (by decide) rfl (gRecv_t (by omega) rfl rfl) (c_here l (by omega) hz hp hT ha) (fun v1 w2 h => ?_)
  obtain ⟨rfl, rfl⟩ := h
  have g2 := g_ret (v := some (.int (Int32.ofNat (isF (txB z B p))))) hFC (r := uM r []) (w := tW r al cy rest 45 tMv) (allL_ok q_fi1 (txB z B p) (txB_lt hB)) (fun v0 h0 => vI_ok h0) ⟨rfl, rfl⟩
  simp only [List.map_cons, List.map_nil, sVal, sI_c] at g2
  exact g2
theorem c_opM (l : Launch) {r : sE} {t p d : Nat} {O : txT} (hd : 3 ≤ d) (hk : O.length < 81) (hO : MOp r O) : gMet l D cy al d 214 (tW r al cy rest 45 tMv) [.ref (al 0), .int (Int32.ofNat t), .int (Int32.ofNat p)] (fun v w => v = none ∧ ∃ r1, kpC (cRg [(282669, 282669), (421888, 426073)]) 69 45 tMv r r1 ∧ MOp r1 ((t, p) :: O) ∧ w = tW r1 al cy rest 45 tMv) := by
  refine gMet_up hd ?_
  have g := c_runU l (D := D) (al := al) (cy := cy) (rest := rest) (r := r) (vs := [Int32.ofNat t, Int32.ofNat p]) (G := fun v w => v = none ∧ ∃ r1, kpC (cRg [(282669, 282669), (421888, 426073)]) 69 45 tMv r r1 ∧ MOp r1 ((t, p) :: O) ∧ w = tW r1 al cy rest 45 tMv) (by omega) tMv_ok cC_M sPa_nil (oM_cons (uMc (by decide) hO.1) oM_nil) (allL_ok q_op O.length (by omega)) (fun m0 v pa m hk1 hp hkp0 => ?_)
  · simp only [List.map_cons, List.map_nil, sVal, uM0, uM1] at g
    exact g
  simp only [Bool.and_eq_true] at hk1
  obtain ⟨k1, k2, k3, k4⟩ := hk1
  have hkp : kpC (cRg [(282669, 282669), (421888 + O.length, 421888 + O.length), (425984 + O.length, 425984 + O.length)]) 69 45 tMv r _ := hkp0
  exact ⟨by rw [eqO_ok k1]; rfl, _, cRg_w hkp ⟨⟨282669, 282669, by simp, by omega, by omega⟩, ⟨421888, 426073, by simp, by omega, by omega⟩, ⟨421888, 426073, by simp, by omega, by omega⟩, trivial⟩, ⟨eU_c (by first | decide | omega) k2, ⟨eU_0 (by first | decide | omega) k3, eU_1 (by first | decide | omega) k4⟩, rwMo_st hkp (by omega) (fun i hi => ⟨⟨by first | omega | (unfold mP; omega), by first | omega | (unfold mP; omega), by first | omega | (unfold mP; omega), trivial⟩, ⟨by first | omega | (unfold mP; omega), by first | omega | (unfold mP; omega), by first | omega | (unfold mP; omega), trivial⟩⟩) hO.2⟩, rfl⟩
theorem c_flM (l : Launch) {r : sE} {t p d : Nat} {O : txT} (hd : 4 ≤ d) (hk : O.length < 81) (hO : MOp r O) : gMet l D cy al d 215 (tW r al cy rest 45 tMv) [.ref (al 0), .int (Int32.ofNat t), .int (Int32.ofNat p)] (fun v w => v = some (.int (Int32.ofNat 0)) ∧ ∃ r1, kpC (cRg CHF) 69 45 tMv r r1 ∧ WHM r1 ((t, p) :: O) ∧ (∀ u, isV 69 45 tMv u = true → outR u [(282669, 282669), (421888, 426073), (282673, 282673), (430080, 434265)] → r1.1 u = r.1 u) ∧ w = tW r1 al cy rest 45 tMv) := by
  refine gMet_up hd ?_
  have g := c_runU l (D := D) (al := al) (cy := cy) (rest := rest) (r := r) (vs := [Int32.ofNat t, Int32.ofNat p]) (G := fun v w => v = some (.int (Int32.ofNat 0)) ∧ ∃ r1, kpC (cRg CHF) 69 45 tMv r r1 ∧ WHM r1 ((t, p) :: O) ∧ (∀ u, isV 69 45 tMv u = true → outR u [(282669, 282669), (421888, 426073), (282673, 282673), (430080, 434265)] → r1.1 u = r.1 u) ∧ w = tW r1 al cy rest 45 tMv) (by omega) tMv_ok cC_M sPa_nil (oM_cons (uMc (by decide) hO.1) oM_nil) (q_fl hk) (fun m0 v pa m hk1 hp hkp0 => ?_)
  · simp only [List.map_cons, List.map_nil, sVal, uM0, uM1] at g
    exact g
  simp only [Bool.and_eq_true] at hk1
  obtain ⟨k1, k2, k3, k4, k5⟩ := hk1
  have hkp : kpC (cRg [(282669, 282669), (421888, 426073), (282673, 282673), (430080, 434265)]) 69 45 tMv r _ := hkp0
  refine ⟨vI_ok k1, _, cRg_w hkp ⟨⟨282669, 282670, by simp [CHF], by omega, by omega⟩, ⟨421888, 426073, by simp [CHF], by omega, by omega⟩, ⟨282673, 282673, by simp [CHF], by omega, by omega⟩, ⟨430080, 434265, by simp [CHF], by omega, by omega⟩, trivial⟩, ⟨eU_c (by first | decide | omega) k2, ⟨eU_0 (by first | decide | omega) k3, eU_1 (by first | decide | omega) k4⟩, rwT_cp (r := r) (pa := mP 34 0) (pb := mP 35 0) (fun i hi => ?_) hO.2⟩, fun u hv hu => kpR hkp hv hu, rfl⟩
  have g := allL_ok k5 i hi
  rw [Bool.and_eq_true] at g
  exact ⟨eU_v (by first | decide | omega) (show 421888 + i < 819290 by omega) g.1, eU_v (by first | decide | omega) (show 425984 + i < 819290 by omega) g.2⟩
theorem W5_kf {j : Nat} {r r1 : sE} (k : ∀ u, isV 69 45 tMv u = true → outR u [(282669, 282669), (421888, 426073), (282673, 282673), (430080, 434265)] → r1.1 u = r.1 u) (h : W5 r j) : W5 r1 0 := fun i hi hc => le5_st (by
  have := k (mP 38 i) (vM_r.2.2.1 i hi) ⟨by first | omega | (unfold mP; omega), by first | omega | (unfold mP; omega), by first | omega | (unfold mP; omega), by first | omega | (unfold mP; omega), trivial⟩
  rw [show mP 38 0 + i = mP 38 i by unfold mP; omega]
  exact this) (h i hi (hc.elim Or.inl (fun q => absurd q (by omega))))
theorem L5_kf {r r1 : sE} (k : ∀ u, isV 69 45 tMv u = true → outR u [(282669, 282669), (421888, 426073), (282673, 282673), (430080, 434265)] → r1.1 u = r.1 u) (h : L5 r) : L5 r1 := fun i hi => le5_st (by
  have := k (mP 19 (1 + i)) (vM_r.2.2.2 (1 + i) (by omega)).2.1 ⟨by first | omega | (unfold mP; omega), by first | omega | (unfold mP; omega), by first | omega | (unfold mP; omega), by first | omega | (unfold mP; omega), trivial⟩
  rw [show mP 19 1 + i = mP 19 (1 + i) by unfold mP; omega]
  exact this) (h i hi)
theorem nth_inv {n : Nat} {p : List Nat} (hn : 1 ≤ n) (hn5 : n ≤ 5) (hp : p ∈ ordN n) {i : Nat} (hi : i < 5) : nthO p i ≤ 5 := by
  have h := allL_ok (lAll_ok ORDS_tab p (ordN_in hp)) i hi
  rw [Bool.and_eq_true] at h
  exact Nat.le_of_ble_eq_true h.2
theorem c_tnM (l : Launch) {r : sE} {n w d : Nat} {o : List Nat} (hd : 3 ≤ d) (hn : 1 ≤ n) (hn5 : n ≤ 5) (hP : PRt n w r o) (hL : L5 r) : gMet l D cy al d 219 (tW r al cy rest 45 tMv) [.ref (al 0)] (fun v w2 => v = none ∧ ∃ r1, kpC (cRg [(360448, 360453), (442368, 442373)]) 69 45 tMv r r1 ∧ PRt n w r1 (invO o) ∧ L5 r1 ∧ w2 = tW r1 al cy rest 45 tMv) := by
  refine gMet_up hd ?_
  by_cases hw : w = 1
  · obtain ⟨ho, hv⟩ := hP.2 hw
    have hi := invO_in hn hn5 ho
    have pv : ∀ j, j < 5 → (uM r []).1 (mP 39 (j + 1)) = sI (uM r []) (.natCast (nthO o j)) := fun j hj => by
      rw [uM_lo (by unfold mP; omega), sI_c, ← hv j hj]
      exact congrArg r.1 (by unfold mP; omega)
    have g := c_runU l (D := D) (al := al) (cy := cy) (rest := rest) (r := r) (vs := []) (G := fun v w2 => v = none ∧ ∃ r1, kpC (cRg [(360448, 360453), (442368, 442373)]) 69 45 tMv r r1 ∧ PRt n w r1 (invO o) ∧ L5 r1 ∧ w2 = tW r1 al cy rest 45 tMv) (by omega) tMv_ok cC_M sPa_nil (oM_cons (pv 0 (by omega)) (oM_cons (pv 1 (by omega)) (oM_cons (pv 2 (by omega)) (oM_cons (pv 3 (by omega)) (oM_cons (pv 4 (by omega)) oM_nil))))) (lAll_ok q_tnG o (ordN_in ho)) (fun m0 v pa m hk1 hp hkp0 => ?_)
    · simp only [List.map_cons, List.map_nil, sVal] at g
      exact g
    rw [Bool.and_eq_true] at hk1
    obtain ⟨k1, k2⟩ := hk1
    have hkp : kpC (cRg [(360449, 360453), (442369, 442373)]) 69 45 tMv r _ := hkp0
    have e1 : ∀ i, i < 5 → (eOf 69 (uM r []) m).1 (mP 39 1 + i) = Int32.ofNat (nthO (invO o) i) ∧ (eOf 69 (uM r []) m).1 (mP 19 1 + i) = Int32.ofNat (nthO (invO o) i) := fun i hi => by
      have g := allL_ok k2 i hi
      rw [Bool.and_eq_true] at g
      rw [show mP 39 1 + i = 4096 * (69 + 39) + Nat.succ i by unfold mP; omega, show mP 19 1 + i = 4096 * (69 + 19) + Nat.succ i by unfold mP; omega]
      exact ⟨eU_c (by first | decide | omega) g.1, eU_c (by first | decide | omega) g.2⟩
    exact ⟨by rw [eqO_ok k1]; rfl, _, cRg_w hkp ⟨⟨360448, 360453, by simp, by omega, by omega⟩, ⟨442368, 442373, by simp, by omega, by omega⟩, trivial⟩, ⟨fun i hi2 => ⟨_, nth_inv hn hn5 hi hi2, (e1 i hi2).1⟩, fun _ => ⟨hi, fun i hi2 => (e1 i hi2).1⟩⟩, fun i hi2 => ⟨_, nth_inv hn hn5 hi hi2, (e1 i hi2).2⟩, rfl⟩
  have key := gMet_of (l := l) (D := D) (cy := cy) (al := al) (d := 3) (k := 219) (w := tW r al cy rest 45 tMv) (r := uM r []) (G := fun v w2 => v = none ∧ ∃ r1, kpC (cRg [(360448, 360453), (442368, 442373)]) 69 45 tMv r r1 ∧ PRt n w r1 (invO o) ∧ L5 r1 ∧ w2 = tW r1 al cy rest 45 tMv) q_tnE (fun At hFC => ?_)
  · simp only [List.map_cons, List.map_nil, sVal] at key
    exact key
  have lt : ∀ (r2 : sE) (i : Nat), List.map (Option.map (sVal (uM r2 []) al)) [some (.inr (.inr (some (nat_lit 0)))), some (.inl (.natCast i))] = [some (.ref (al 0)), some (.int (Int32.ofNat i))] := fun r2 i => by simp only [List.map_cons, List.map_nil, Option.map_some, sVal, sI_c]
  have loop : ∀ (m i : Nat) (r2 : sE), i + m = 5 → kpC (cRg [(360448, 360453)]) 69 45 tMv r r2 → L5 r2 → i < 5 → At 7 [some (.ref (al 0)), some (.int (Int32.ofNat (i + 1)))] [] (tW r2 al cy rest 45 tMv) := by
    intro m
    induction m with
    | zero => intro i r2 h1 _ _ h2; omega
    | succ m ih =>
      intro i r2 him hkp hL2 hi
      have hpi : r2.1 (mP 39 (Nat.succ i)) = r.1 (mP 39 1 + i) := (kpR hkp (vM_r.2.2.2 (i + 1) (by omega)).1 ⟨by first | omega | (unfold mP; omega), trivial⟩).trans (congrArg r.1 (by unfold mP; omega))
      obtain ⟨v, v1, v2⟩ := hP.1 i hi
      have g := g_segU hFC (r := r2) (vs := []) (al := al) (cy := cy) (rest := rest) (by omega) tMv_ok cC_M sPa_nil (oM_cons (uMc (by unfold mP; omega) (hpi.trans v2)) oM_nil) (allL_ok (allL_ok q_tnA i hi) v (by omega)) (fun m0 pc L st pa m9 hk2 hp2 hkp2 => ?_) (fun m0 v pa m1 hk2 => nomatch hk2)
      · rw [lt] at g
        exact g
      rw [Bool.and_eq_true] at hk2
      obtain ⟨rfl, rfl, rfl⟩ := kAt_ok hk2.1
      have hkp3 : kpC (cRg [(360448 + v, 360448 + v)]) 69 45 tMv r2 _ := hkp2
      have hval := eU_c (b := 69) (r := r2) (vs := []) (by first | decide | omega) hk2.2
      generalize eOf 69 (uM r2 []) m9 = r3 at hkp3 hval
      have hk4 : kpC (cRg [(360448, 360453)]) 69 45 tMv r r3 := kpC_trans hkp (cRg_w hkp3 ⟨⟨360448, 360453, by simp, by omega, by omega⟩, trivial⟩)
      have hL3 : L5 r3 := fun j hj => by
        by_cases hjv : v = 1 + j
        · subst hjv
          exact ⟨i + 1, by omega, by rw [show mP 19 1 + j = 4096 * (69 + 19) + (1 + j) by unfold mP; omega]; exact hval⟩
        · refine le5_st ?_ (hL2 j hj)
          have := kpR hkp3 (vM_r.2.2.2 (1 + j) (by omega)).2.1 ⟨by unfold mP; omega, trivial⟩
          rw [show mP 19 1 + j = mP 19 (1 + j) by unfold mP; omega]
          exact this
      rw [lt]
      by_cases h5 : i = 4
      · subst h5
        have g2 := g_segU hFC (r := r3) (vs := []) (al := al) (cy := cy) (rest := rest) (by omega) tMv_ok cC_M sPa_nil oM_nil q_tnC (fun m0 pc L st pa m9 hk2 => nomatch hk2) (fun m0 v pa m1 hk3 hp3 hkp5 => ?_)
        · rw [lt] at g2
          exact g2
        rw [Bool.and_eq_true] at hk3
        have hkp6 : kpC (cRg [(442369, 442373)]) 69 45 tMv r3 _ := hkp5
        refine ⟨by rw [eqO_ok hk3.1]; rfl, _, kpC_trans (cRg_w hk4 ⟨⟨360448, 360453, by simp, by omega, by omega⟩, trivial⟩) (cRg_w hkp6 ⟨⟨442368, 442373, by simp, by omega, by omega⟩, trivial⟩), ⟨fun j hj => ?_, fun q => absurd q hw⟩, L5_st hkp6 (fun j hj => ⟨by first | omega | (unfold mP; omega), trivial⟩) hL3, rfl⟩
        obtain ⟨k, k1, k2⟩ := hL3 j hj
        refine ⟨k, k1, ?_⟩
        rw [← k2, show mP 39 1 + j = 4096 * (69 + 39) + Nat.succ j by unfold mP; omega]
        exact (eU_v (by first | decide | omega) (show 360449 + j < 819290 by omega) (allL_ok hk3.2 j hj)).trans (congrArg r3.1 (by unfold mP; omega))
      · have g2 := g_pure hFC (r := uM r3 []) (al := al) (w := tW r3 al cy rest 45 tMv) sPa_nil (allL_ok q_tnB i (by omega)) (fun pc L st hk => ?_) (fun v hk => nomatch hk)
        · rw [lt] at g2
          exact g2
        obtain ⟨rfl, rfl, rfl⟩ := kAt_ok hk
        rw [lt]
        exact ih (i + 1) r3 (by omega) hk4 hL3 (by omega)
  have g := g_pure hFC (r := uM r []) (al := al) (w := tW r al cy rest 45 tMv) sPa_nil q_tn0 (fun pc L st hk => ?_) (fun v hk => nomatch hk)
  · exact g
  obtain ⟨rfl, rfl, rfl⟩ := kAt_ok hk
  rw [lt]
  exact loop 5 0 r rfl kpC_rfl hL (by omega)
end RM
