/-! 82: both runs apart; restore (by wip/whole/mk82.py) -/
/-- both runs, each for itself, to the templates t2 and s2 -/
noncomputable def rX2 (fuel d k : Nat) (t t2 : Nat → sC) (K : Nat → Bool) (b n : Nat) (ovs : List sOv) (pa : List sK) (as : List sV) (V0 : sV) (ck : sM → List sK → sM → Bool) : Bool := sBeg b n t K ovs (fun x0 => sRun fuel d k pa x0 (.inr (.inr (some (nat_lit 0))) :: as) (fun v pa x => Bool.and (fitM b n t2 K x) (Bool.and (eqO v (some V0)) (ck x0 pa x))))
theorem OpOk_2 (l : Launch) {D : va_G} {cy : Nat → ClassId} {alX alM : Nat → Nat} {r : sE} {fuel d kX kM : Nat} {t t2 s s2 : Nat → sC} {KX KM : Nat → Bool} {oX oM : List sOv} {paX paM : List sK} {as : List sV} {V0 : sV} {V : Value} {ckX ckM : sM → List sK → sM → Bool} {vs : List Value} {P : sE → Prop} (ht : tOk 0 68 t tXv) (ht2 : tOk 0 68 t2 tXv) (hs : tOk 69 45 s tMv) (hs2 : tOk 69 45 s2 tMv) (hct : cC 0 68 t r) (hcs : cC 69 45 s r) (hpX : sPa r paX) (hpM : sPa r paM)
    (hXu : ∀ i, i < 68 → KX i = false → t2 i = t i) (hMu : ∀ i, i < 45 → KM i = false → s2 i = s i) (hoX : oXs r oX) (hoM : oMs r oM) (hv : ∀ al : Nat → Nat, as.map (sVal r al) = vs) (hV : ∀ al : Nat → Nat, sVal r al V0 = V) (hk : kdV kX (some V))
    (h1 : rX2 fuel d kX t t2 KX 0 68 oX paX as V0 ckX = true) (h2 : rX2 fuel d kM s s2 KM 69 45 oM paM as V0 ckM = true)
    (hP : ∀ (x0 m0 : sM) (pa pa2 : List sK) (x m : sM), ovP r alX 68 t KX x0 → ovP r alM 45 s KM m0 → ckX x0 pa x = true → ckM m0 pa2 m = true → sPa r pa → sPa r pa2 → fitM 0 68 t2 KX x = true → fitM 69 45 s2 KM m = true → cC 0 68 t2 (eOf 0 r x) → cC 69 45 s2 (eOf 69 r m) → P (eJ r x m)) : OpOk l D cy alX alM d r kX kM vs P := by
  refine ⟨fun v r1 => v = some V ∧ ∃ (x0 : sM) (pa : List sK) (x : sM), ovP r alX 68 t KX x0 ∧ ckX x0 pa x = true ∧ sPa r pa ∧ fitM 0 68 t2 KX x = true ∧ r1 = eOf 0 r x, fun rest => ?_, fun v r1 hm rest => ?_, fun v r1 hm => by rw [hm.1]; exact hk⟩
  · have key := gT_run (al := alX) (cy := cy) (rest := rest) (D := D) (G := fun v w => ∃ r1, (v = some V ∧ ∃ (x0 : sM) (pa : List sK) (x : sM), ovP r alX 68 t KX x0 ∧ ckX x0 pa x = true ∧ sPa r pa ∧ fitM 0 68 t2 KX x = true ∧ r1 = eOf 0 r x) ∧ w = tW r1 alX cy rest 68 tXv) l (fun i hi => (ht i hi).1) hXu hpX hoX h1 ?_
    · rw [List.map_cons, hv, cC_w (fun i hi => (ht i hi).2) hct] at key
      exact key
    · intro x0 v pa1 x g1 g2 g3 g4
      rw [Bool.and_eq_true] at g2
      refine ⟨eOf 0 r x, ⟨?_, x0, pa1, x, g1, g2.2, g3, g4, rfl⟩, cC_w (fun i hi => (ht2 i hi).2) (cC_fit g4 hXu hct (fun i hi => (ht i hi).1))⟩
      rw [eqO_ok g2.1]
      exact congrArg some (hV alX)
  · obtain ⟨rfl, x0, pa0, x, g1, g2, g3, g4, rfl⟩ := hm
    have key := gT_run (al := alM) (cy := cy) (rest := rest) (D := D) (G := fun v2 w2 => v2 = some V ∧ ∃ r2, w2 = tW r2 alM cy rest 45 tMv ∧ P (eB (eOf 0 r x) r2)) l (fun i hi => (hs i hi).1) hMu hpM hoM h2 ?_
    · rw [List.map_cons, hv, cC_w (fun i hi => (hs i hi).2) hcs] at key
      exact key
    · intro m0 v2 pa1 m k1 k2 k3 k4
      rw [Bool.and_eq_true] at k2
      have hcm := cC_fit k4 hMu hcs (fun i hi => (hs i hi).1)
      refine ⟨by rw [eqO_ok k2.1]; exact congrArg some (hV alM), eOf 69 r m, cC_w (fun i hi => (hs2 i hi).2) hcm, ?_⟩
      exact hP x0 m0 pa0 pa1 x m g1 k1 g2 k2.2 g3 k3 g4 k4 (cC_fit g4 hXu hct (fun i hi => (ht i hi).1)) hcm
noncomputable def idL : List Nat := [nat_lit 1, nat_lit 2, nat_lit 3, nat_lit 4, nat_lit 5]
noncomputable def KXq2 : Nat → Bool := memB [nat_lit 0, nat_lit 1, nat_lit 2, nat_lit 3, nat_lit 4, nat_lit 5, nat_lit 6, nat_lit 7, nat_lit 8, nat_lit 9, nat_lit 10, nat_lit 11, nat_lit 12, nat_lit 13, nat_lit 14, nat_lit 15, nat_lit 16, nat_lit 17, nat_lit 18, nat_lit 19, nat_lit 20, nat_lit 21, nat_lit 22, nat_lit 23, nat_lit 24, nat_lit 25, nat_lit 26, nat_lit 27, nat_lit 34, nat_lit 35, nat_lit 36, nat_lit 37, nat_lit 38, nat_lit 39, nat_lit 40, nat_lit 41, nat_lit 42, nat_lit 43, nat_lit 44, nat_lit 57, nat_lit 58, nat_lit 59, nat_lit 60, nat_lit 61, nat_lit 62, nat_lit 63, nat_lit 64, nat_lit 65, nat_lit 66, nat_lit 67]
noncomputable def KMq2 : Nat → Bool := memB [nat_lit 0, nat_lit 1, nat_lit 2, nat_lit 3, nat_lit 4, nat_lit 5, nat_lit 6, nat_lit 7, nat_lit 8, nat_lit 9, nat_lit 10, nat_lit 40, nat_lit 41, nat_lit 42, nat_lit 43, nat_lit 44]
noncomputable def chR (u : Nat) : Bool := Bool.or (memB [nat_lit 282625, nat_lit 282628, nat_lit 282641] u) (memB [nat_lit 1, nat_lit 2, nat_lit 3, nat_lit 4, nat_lit 5, nat_lit 6, nat_lit 7, nat_lit 8, nat_lit 9, nat_lit 10, nat_lit 11, nat_lit 12, nat_lit 13, nat_lit 14, nat_lit 15, nat_lit 16, nat_lit 17, nat_lit 18, nat_lit 19, nat_lit 20, nat_lit 21, nat_lit 22, nat_lit 23, nat_lit 24, nat_lit 25, nat_lit 26, nat_lit 27, nat_lit 34, nat_lit 35, nat_lit 36, nat_lit 37, nat_lit 38, nat_lit 39, nat_lit 40, nat_lit 41, nat_lit 42, nat_lit 43, nat_lit 44, nat_lit 70, nat_lit 71, nat_lit 72, nat_lit 73, nat_lit 74, nat_lit 75, nat_lit 76, nat_lit 77, nat_lit 78, nat_lit 79] (Nat.div u (nat_lit 4096)))
theorem KXq2_t : allL 18 (fun c => allL 68 (fun i => Bool.or (KXq2 i) (eqC (tX c i) (tXv i)))) = true := by decide +kernel
theorem KMq2_t : allL 18 (fun c => allL 45 (fun i => Bool.or (KMq2 i) (eqC (tM c i) (tMv i)))) = true := by decide +kernel
theorem chR_ok : allL 3 (fun i => lAll (fun u => Bool.not (chR u)) (cPl (Nat.add (nat_lit 9) i))) = true := by decide +kernel
noncomputable def oMl (c : Nat) : List sOv := [(nat_lit 40, nat_lit 0, .natCast ((lensOf c).getD 0 0)), (nat_lit 40, nat_lit 1, .natCast ((lensOf c).getD 1 0)), (nat_lit 40, nat_lit 2, .natCast ((lensOf c).getD 2 0)), (nat_lit 40, nat_lit 3, .natCast ((lensOf c).getD 3 0)), (nat_lit 40, nat_lit 4, .natCast ((lensOf c).getD 4 0)), (nat_lit 40, nat_lit 5, .natCast ((lensOf c).getD 5 0))]
noncomputable def ckRX (x0 : sM) (pa : List sK) (x : sM) : Bool := Bool.and (frM (nat_lit 0) chR x0 (nat_lit 0) x) (Bool.and (eqC0 x (nat_lit 44) (nat_lit 0) (nat_lit 0)) (Bool.and (allL 4 (fun q => eqE0 x (nat_lit 34) q (.var (Nat.add (nat_lit 237568) q)))) (allL 4 (fun s => Bool.and (Bool.and (eqE0 x (Nat.add (nat_lit 36) (Nat.mul (nat_lit 2) s)) (nat_lit 0) (.var (Nat.add (nat_lit 245760) (Nat.mul (nat_lit 8192) s)))) (eqE0 x (Nat.add (nat_lit 36) (Nat.mul (nat_lit 2) s)) (nat_lit 1) (.var (Nat.add (nat_lit 245761) (Nat.mul (nat_lit 8192) s))))) (allL 20 (fun j => eqE0 x (Nat.add (nat_lit 37) (Nat.mul (nat_lit 2) s)) j (.var (Nat.add (Nat.add (nat_lit 249856) (Nat.mul (nat_lit 8192) s)) j))))))))
noncomputable def ckRM (m0 : sM) (pa : List sK) (m : sM) : Bool := Bool.and (frM (nat_lit 69) chR m0 (nat_lit 0) m) (Bool.and (eqC0 m (nat_lit 0) (nat_lit 17) (nat_lit 0)) (Bool.and (allL 24 (fun j => eqE0 m (nat_lit 6) j (.var (Nat.add (nat_lit 450560) j)))) (Bool.and (allL 4 (fun s => Bool.and (eqE0 m (nat_lit 7) s (.var (Nat.add (nat_lit 454656) s))) (eqE0 m (nat_lit 8) s (.var (Nat.add (nat_lit 458752) s))))) (allL 80 (fun j => eqE0 m (nat_lit 9) j (.var (Nat.add (nat_lit 462848) j)))))))
noncomputable def rstX (c : Nat) : Bool := rX2 (nat_lit 100000) (nat_lit 200) (nat_lit 123) tXv (tX c) KXq2 (nat_lit 0) (nat_lit 68) [(nat_lit 57, nat_lit 0, .natCast (sCodes.getD c 0))] [] [] (.inl (.natCast (nOf c))) ckRX
noncomputable def rstM (c : Nat) : Bool := rX2 (nat_lit 100000) (nat_lit 200) (nat_lit 226) tMv (tM c) KMq2 (nat_lit 69) (nat_lit 45) ((nat_lit 0, nat_lit 53, .natCast (nat_lit 1)) :: oMl c) [] [] (.inl (.natCast (nOf c))) ckRM
theorem q_rstX_0 : allL 12 (fun i => rstX (Nat.add (nat_lit 0) i)) = true := by decide +kernel
theorem q_rstX_1 : allL 2 (fun i => rstX (Nat.add (nat_lit 12) i)) = true := by decide +kernel
theorem q_rstX_2 : allL 1 (fun i => rstX (Nat.add (nat_lit 14) i)) = true := by decide +kernel
theorem q_rstX_3 : allL 1 (fun i => rstX (Nat.add (nat_lit 15) i)) = true := by decide +kernel
theorem q_rstX_4 : allL 2 (fun i => rstX (Nat.add (nat_lit 16) i)) = true := by decide +kernel
theorem q_rstX {c : Nat} (hc : c < 18) : rstX c = true := by
  by_cases h0 : c < 12
  · have := allL_ok q_rstX_0 (c - 0) (by omega)
    rwa [show Nat.add (nat_lit 0) (c - 0) = c by show 0 + (c - 0) = c; omega] at this
  by_cases h1 : c < 14
  · have := allL_ok q_rstX_1 (c - 12) (by omega)
    rwa [show Nat.add (nat_lit 12) (c - 12) = c by show 12 + (c - 12) = c; omega] at this
  by_cases h2 : c < 15
  · have := allL_ok q_rstX_2 (c - 14) (by omega)
    rwa [show Nat.add (nat_lit 14) (c - 14) = c by show 14 + (c - 14) = c; omega] at this
  by_cases h3 : c < 16
  · have := allL_ok q_rstX_3 (c - 15) (by omega)
    rwa [show Nat.add (nat_lit 15) (c - 15) = c by show 15 + (c - 15) = c; omega] at this
  have := allL_ok q_rstX_4 (c - 16) (by omega)
  rwa [show Nat.add (nat_lit 16) (c - 16) = c by show 16 + (c - 16) = c; omega] at this
theorem q_rstM_0 : allL 12 (fun i => rstM (Nat.add (nat_lit 0) i)) = true := by decide +kernel
theorem q_rstM_1 : allL 6 (fun i => rstM (Nat.add (nat_lit 12) i)) = true := by decide +kernel
theorem q_rstM {c : Nat} (hc : c < 18) : rstM c = true := by
  by_cases h0 : c < 12
  · have := allL_ok q_rstM_0 (c - 0) (by omega)
    rwa [show Nat.add (nat_lit 0) (c - 0) = c by show 0 + (c - 0) = c; omega] at this
  have := allL_ok q_rstM_1 (c - 12) (by omega)
  rwa [show Nat.add (nat_lit 12) (c - 12) = c by show 12 + (c - 12) = c; omega] at this
/-- the parts that no shape's change touches -/
theorem Comp_high {c c2 : Nat} {r : sE} {alX alM : Nat → Nat} {t2 s2 : Nat → sC} {KX KM Ch : Nat → Bool} {x0 m0 x m : sM} (hx0 : ovP r alX 68 tXv KX x0) (hm0 : ovP r alM 45 tMv KM m0) (hx : fitM 0 68 t2 KX x = true) (hm : fitM 69 45 s2 KM m = true) (h : frJ Ch x0 m0 x m = true) (hch : allL 3 (fun i => lAll (fun u => Bool.not (Ch u)) (cPl (Nat.add (nat_lit 9) i))) = true) {id : Nat} (h9 : 9 ≤ id) (hid : id < 12) (hI : Comp id c r) : Comp id c2 (eJ r x m) := by
  have hc := allL_ok hch (id - 9) (by omega)
  rw [show Nat.add (nat_lit 9) (id - 9) = id by show 9 + (id - 9) = id; omega] at hc
  have key : Comp id c (eJ r x m) := frJ_comp rfl tXv_ok tMv_ok vPl_v hx0 hm0 hx hm h hid hc hI
  rcases (show id = 9 ∨ id = 10 ∨ id = 11 by omega) with rfl | rfl | rfl
  · exact key
  · exact key
  · exact key
theorem kd_123 : (PG 123).2.2.2.2 = 1 := by decide +kernel
theorem crJ_rst : crJ (memB [nat_lit 0, nat_lit 57]) (memB [nat_lit 0]) scQ = true := by decide +kernel
theorem q_rst0 : jRun (nat_lit 100000) (nat_lit 200) tXv tXv tMv tMv (nat_lit 123) (nat_lit 226) (memB [nat_lit 0, nat_lit 57]) (memB [nat_lit 0]) [(nat_lit 57, nat_lit 0, .natCast (nat_lit 0))] [(nat_lit 0, nat_lit 53, .natCast (nat_lit 0))] [] [] (fun x0 m0 pa x m => frJ scQ x0 m0 x m) = true := by decide +kernel
theorem op_restore {l : Launch} {D : va_G} {cy : Nat → ClassId} {alX alM : Nat → Nat} : OpI l D cy alX alM 123 226 0 := by
  intro r as hI hlen
  obtain rfl : as = [] := List.length_eq_zero_iff.mp hlen
  refine OpOk_uA [] ?_
  replace hI := Inv_uA (as := []) hI
  generalize uA r [] = r at hI  ⊢
  obtain ⟨c0, hc0, hcc, hcm⟩ := id hI
  have hIm : cI r := hcm 11 (by omega)
  rcases hIm with ⟨i1, i2⟩ | ⟨c, hc, i1, i2, i3, i4, i5⟩
  · exact jOk l tXv_ok tXv_ok tMv_ok tMv_ok (cC_X r) (cC_M r) sPa_nil (fun _ _ _ => rfl) (fun _ _ _ => rfl) (oX_cons (by rw [sI_c]; exact i1) oX_nil) (oM_cons (by rw [sI_c]; exact i2) oM_nil) rfl rfl q_rst0 (fun x0 m0 pa x m hx0 hm0 hck hp hfx hfm _ _ => Inv_qv crJ_rst hx0 hm0 hfx hfm hck hI)
  have hKX : ∀ i, i < 68 → KXq2 i = false → tX c i = tXv i := fun i hi hk => by
    have := allL_ok (allL_ok KXq2_t c hc) i hi
    rw [hk] at this
    exact eqC_ok _ _ this
  have hKM : ∀ i, i < 45 → KMq2 i = false → tM c i = tMv i := fun i hi hk => by
    have := allL_ok (allL_ok KMq2_t c hc) i hi
    rw [hk] at this
    exact eqC_ok _ _ this
  have l6 : ∀ i, i < 6 → r.1 (mP 40 i) = sI r (.natCast ((lensOf c).getD i 0)) := fun i hi => by rw [sI_c]; exact i3 i hi
  refine OpOk_2 l tXv_ok (tX_ok hc) tMv_ok (tM_ok hc) (cC_X r) (cC_M r) sPa_nil sPa_nil hKX hKM (oX_cons (by rw [sI_c]; exact i1) oX_nil) (oM_cons (by rw [sI_c]; exact i2) (oM_cons (l6 0 (by omega)) (oM_cons (l6 1 (by omega)) (oM_cons (l6 2 (by omega)) (oM_cons (l6 3 (by omega)) (oM_cons (l6 4 (by omega)) (oM_cons (l6 5 (by omega)) oM_nil))))))) (fun _ => rfl) (V := .int (Int32.ofNat (nOf c))) (fun al => by
    show Value.int (sI r (.natCast (nOf c))) = _
    rw [sI_c]) (Or.inl ⟨kd_123, _, rfl⟩) (q_rstX hc) (q_rstM hc) (fun x0 m0 pa pa2 x m hx0 hm0 hckX hckM hp hp2 hfx hfm g1 g2 => ?_)
  unfold ckRX at hckX
  unfold ckRM at hckM
  simp only [Bool.and_eq_true] at hckX hckM
  obtain ⟨a1, a2, a3, a4⟩ := hckX
  obtain ⟨b1, b2, b3, b4, b5⟩ := hckM
  have hf : frJ chR x0 m0 x m = true := by
    unfold frJ
    rw [Bool.and_eq_true]
    exact ⟨a1, b1⟩
  refine ⟨c, hc, ⟨cC_eJx (tX_ok hc) g1, cC_eJm g2⟩, fun id hid => ?_⟩
  by_cases h9 : 9 ≤ id
  · exact Comp_high hx0 hm0 hfx hfm hf chR_ok h9 hid (hcm id hid)
  by_cases h8 : id = 8
  · subst h8
    exact ⟨0, by omega, eqC0_x (show 44 < 68 by omega) (show 0 < 4096 by omega) a2, eqC0_m (show 17 < 4096 by omega) b2, fun i hi => absurd hi (by omega)⟩
  by_cases h4 : id < 4
  · rw [Comp_R h4]
    refine cR_copy ?_ (fun i hi => ?_) (i4 id h4)
    · have := eqE0_x (r := r) (m := m) (show 34 < 68 by omega) (show id < 4096 by omega) (allL_ok a3 id h4)
      rw [this, sI_v]
      exact congrArg r.1 (show 237568 + id = xP 58 id by unfold xP; omega)
    · have := eqE0_m (r := r) (x := x) (show 6 * id + 1 + i < 4096 by omega) (allL_ok b3 (6 * id + 1 + i) (by omega))
      have e1 : mP 6 (6 * id + 1) + i = mP 6 (6 * id + 1 + i) := by unfold mP; omega
      rw [e1, this, sI_v]
      exact congrArg r.1 (show 450560 + (6 * id + 1 + i) = mP 41 (6 * id + 1) + i by unfold mP; omega)
  · obtain ⟨s, rfl⟩ : ∃ s, id = 4 + s := ⟨id - 4, by omega⟩
    have hs : s < 4 := by omega
    rw [Comp_S hs]
    have c4 := allL_ok a4 s hs
    have d4 := allL_ok b4 s hs
    rw [Bool.and_eq_true, Bool.and_eq_true] at c4
    rw [Bool.and_eq_true] at d4
    refine cS_copy ?_ ?_ ?_ ?_ (fun j hj => ?_) (fun j hj => ?_) (i5 s hs)
    · have := eqE0_x (r := r) (m := m) (show 36 + 2 * s < 68 by omega) (show 0 < 4096 by omega) c4.1.1
      rw [this, sI_v]
      exact congrArg r.1 (show 245760 + 8192 * s = xP (60 + 2 * s) 0 by unfold xP; omega)
    · have := eqE0_x (r := r) (m := m) (show 36 + 2 * s < 68 by omega) (show 1 < 4096 by omega) c4.1.2
      rw [this, sI_v]
      exact congrArg r.1 (show 245761 + 8192 * s = xP (60 + 2 * s) 1 by unfold xP; omega)
    · have := eqE0_m (r := r) (x := x) (show s < 4096 by omega) d4.1
      rw [this, sI_v]
      exact congrArg r.1 (show 454656 + s = mP 42 s by unfold mP; omega)
    · have := eqE0_m (r := r) (x := x) (show s < 4096 by omega) d4.2
      rw [this, sI_v]
      exact congrArg r.1 (show 458752 + s = mP 43 s by unfold mP; omega)
    · have := eqE0_x (r := r) (m := m) (show 37 + 2 * s < 68 by omega) (show j < 4096 by omega) (allL_ok c4.2 j hj)
      rw [show xP (37 + 2 * s) 0 + j = xP (37 + 2 * s) j by unfold xP; omega, this, sI_v]
      exact congrArg r.1 (show 249856 + 8192 * s + j = xP (61 + 2 * s) 0 + j by unfold xP; omega)
    · have := eqE0_m (r := r) (x := x) (show 20 * s + j < 4096 by omega) (allL_ok b5 (20 * s + j) (by omega))
      rw [show mP 9 (20 * s) + j = mP 9 (20 * s + j) by unfold mP; omega, this, sI_v]
      exact congrArg r.1 (show 462848 + (20 * s + j) = mP 44 (20 * s) + j by unfold mP; omega)
