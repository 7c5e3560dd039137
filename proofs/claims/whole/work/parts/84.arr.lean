/-! 84: arrays at any place; frames by any set of places -/
def rowA (k pc nx : Nat) (ir : Instr) : Prop := ∃ aux, (PG k).1.get pc = (pc, ir, nx, aux)
/-- an int[] of the world is read and written at any place -/
def gAR (cy : Nat → ClassId) (k : Nat) (At : gAt) : Prop :=
  (∀ (pc nx j n i a : Nat) (f : Nat → Int32) (LV : List (Option Value)) (SV : List Value) (w : va_W), rowA k pc nx .iaload → j < n → j < 2147483648 → w[i]? = some (a, (Sum.inl (cy 1, n, Sum.inl f) : va_E)) → At nx LV (.int (f j) :: SV) w → At pc LV (.int (Int32.ofNat j) :: .ref a :: SV) w) ∧
  (∀ (pc nx j n i a : Nat) (f : Nat → Int32) (x : Int32) (LV : List (Option Value)) (SV : List Value) (w : va_W), rowA k pc nx .iastore → j < n → j < 2147483648 → w[i]? = some (a, (Sum.inl (cy 1, n, Sum.inl f) : va_E)) → At nx LV SV (w.set i (a, (Sum.inl (cy 1, n, Sum.inl (upd f j x)) : va_E))) → At pc LV (.int x :: .int (Int32.ofNat j) :: .ref a :: SV) w)
theorem g_rulesA {l : Launch} {D : va_G} {cy : Nat → ClassId} {al : Nat → Nat} {k d : Nat} {A : Nat → Prop} {p : Program} {e : Env} {R : Room} {s : State} {m : MethodId} {args : Array Value} {below : List Frame} {meth : Method} {c : Code} {Qc : Array Value → State → Outcome → State → Prop} {free : Addr → Prop} (X : sCtx MI k d D cy al A p R s m args meth c) :
    gAR cy k (fun pc LV SV w => ∀ (H : Heap) (locs : List Loc) (ls : Array Slot), va_P D vwCl w H → va_D A w → va_S A s.heap H locs → gLo ls (MI k).2.2.1 LV → W p l e R s m args below meth c H locs 0 0 (MQ below Qc args s 0 0 free) (F0 m pc ls SV)) := by
  obtain ⟨hx, hb, hml, hown, hts, hNw, hK, hst, hA, hfr, hlo, hret, hlocks⟩ := X
  obtain ⟨-, hR⟩ := sGood_ok k
  constructor
  · intro pc nx j n i a f LV SV w hrow hj hj2 hw hk H locs ls hP hD hS hl
    obtain ⟨aux, hg⟩ := hrow
    have hrel := hR pc
    rw [hg] at hrel
    obtain ⟨hd, rfl⟩ : decode (MI k).2.1 pc = .ok (.iaload, 1) ∧ nx = pc + 1 := hrel
    refine va_iald hx hb hK hP i 0 hw rfl (s_in hj hj2) hd ?_
    rw [show (Int32.ofNat j).toNatClampNeg = j from nI_clamp hj2]
    exact hk H locs ls hP hD hS hl
  · intro pc nx j n i a f x LV SV w hrow hj hj2 hw hk H locs ls hP hD hS hl
    obtain ⟨aux, hg⟩ := hrow
    have hrel := hR pc
    rw [hg] at hrel
    obtain ⟨hd, rfl⟩ : decode (MI k).2.1 pc = .ok (.iastore, 1) ∧ nx = pc + 1 := hrel
    refine va_iast hx hb hK hP hD hS i 0 hw rfl (s_in hj hj2) hd (fun H1 locs1 a1 a2 a3 => ?_)
    rw [show (Int32.ofNat j).toNatClampNeg = j from nI_clamp hj2] at a1 a2
    exact hk H1 locs1 ls a1 a2 a3 hl
theorem gMet_ofA {D : va_G} {cy : Nat → ClassId} {al : Nat → Nat} {l : Launch} {d k : Nat} {w : va_W} {r : sE} {as : List sV} {L0 : sL} {G : Option Value → va_W → Prop} (hE : sEnt as (PG k).2.1 (fun L => eqL eqO L L0) = true)
    (h : ∀ At : gAt, gFC l D cy al k d G At → gAR cy k At → At 0 (L0.map (Option.map (sVal r al))) [] w) : gMet l D cy al d k w (as.map (sVal r al)) G := by
  intro sz
  obtain ⟨⟨c1, c2, c3, c4, c5, c6, c7, c8⟩, -⟩ := sGood_ok k
  refine Met.ofW (cc := (MI k).2.1) (maxL := (MI k).2.2.1) (ret := (MI k).2.2.2) c4 rfl ?_
  intro p e s m args below meth c s₁ B hml hv
  obtain ⟨rfl, hsz, hP, hK, hD0, hst, hNw⟩ := hv
  subst hsz
  have hts := atoms_spec (ws := Cond.code (MI k).1 (MI k).2.1 (MI k).2.2.1 (MI k).2.2.2 :: sTb) B.pre
  have hown : s.vm.findClass (MI k).1.cls = some m.cls := findClass_of_methodNamed B.named
  have hD := hD0.self (sz := s.heap.size)
  have hA : ∀ q : Nat, s.heap.size ≤ q → va_A w s.heap.size q := fun q h => Or.inr h
  obtain ⟨L, h1, h2, h3, h4⟩ := sEnt_ok (r := r) (al := al) _ _ _ hE
  have eL : L = L0 := eqL_ok (fun _ _ => eqO_ok) _ _ h1
  subst eL
  rw [c5] at h2 h3
  have hl := lv_entry (as.map (sVal r al)) (n := (MI k).2.2.1) h3
  rw [lg_entry_eq]
  generalize (lg_sl (as.map (sVal r al)) ++ List.replicate ((MI k).2.2.1 - (lg_sl (as.map (sVal r al))).length) Slot.unset).toArray = ls at hl ⊢
  have hlo : sLo r al ls (MI k).2.2.1 L := ⟨hl.1, hl.2.1, fun i v q => hl.2.2 (i, sVal r al v) (by have := h4 0 i v q; rwa [Nat.zero_add] at this), h2⟩
  have X : sCtx MI k d D cy al (va_A w s.heap.size) p (headSpec (Cond.code (MI k).1 (MI k).2.1 (MI k).2.2.1 (MI k).2.2.2 :: sTb) (sRm d)).room s m (as.map (sVal r al)).toArray meth c :=
    ⟨B.exec, B.bytes, hml, hown, fun w h => hts w (List.mem_cons_of_mem _ h), hNw, hK, hst, hA, Nat.le_refl _, Nat.le_refl _, B.returns, B.notSynchronized⟩
  refine h _ (g_rules (p := p) (e := e) (below := below) (Qc := gQc D cy (va_A w s.heap.size) G) (free := va_A w s.heap.size) X ?_ (fun q h => h)) (g_rulesA X) s.heap [] ls hP hD va_S.rf (gLo_iff.mpr hlo)
  intro v w2 H1 locs1 q1 q2 q3 q4 t ht hw
  exact ⟨⟨v, w2, q1, rfl, by rw [ht]; exact q2, va_K.moved hw.alike hK, q3⟩, q4.F ht⟩
/-- but for Ch, the places and what isn't a place stand -/
def kpC (Ch : Nat → Bool) (b n : Nat) (tv : Nat → sC) (r r1 : sE) : Prop := (∀ u, isV b n tv u = true → Ch u = false → r1.1 u = r.1 u) ∧ (∀ u, isL b n tv u = true → Ch u = false → r1.2 u = r.2 u) ∧ ∀ u, 819200 ≤ u → u < 819290 → r1.1 u = r.1 u ∧ r1.2 u = r.2 u
theorem kpC_rfl {Ch : Nat → Bool} {b n : Nat} {tv : Nat → sC} {r : sE} : kpC Ch b n tv r r := ⟨fun _ _ _ => rfl, fun _ _ _ => rfl, fun _ _ _ => ⟨rfl, rfl⟩⟩
theorem kpC_trans {Ch : Nat → Bool} {b n : Nat} {tv : Nat → sC} {r r1 r2 : sE} (h1 : kpC Ch b n tv r r1) (h2 : kpC Ch b n tv r1 r2) : kpC Ch b n tv r r2 := ⟨fun u a c => (h2.1 u a c).trans (h1.1 u a c), fun u a c => (h2.2.1 u a c).trans (h1.2.1 u a c), fun u a c => ⟨(h2.2.2 u a c).1.trans (h1.2.2 u a c).1, (h2.2.2 u a c).2.trans (h1.2.2 u a c).2⟩⟩
theorem kpC_weak {Ch Ch2 : Nat → Bool} {b n : Nat} {tv : Nat → sC} {r r1 : sE} (hw : ∀ u, Ch2 u = false → Ch u = false) (h : kpC Ch b n tv r r1) : kpC Ch2 b n tv r r1 := ⟨fun u a c => h.1 u a (hw u c), fun u a c => h.2.1 u a (hw u c), h.2.2⟩
theorem kpC_uM {Ch : Nat → Bool} {r : sE} {l : List Int32} {b n : Nat} {tv : Nat → sC} (hb : b + n ≤ 200) : kpC Ch b n tv r (uM r l) := ⟨fun u hu _ => uM_lo (by have := (isV_ok hu).2.1; omega), fun _ _ _ => rfl, fun u _ h2 => ⟨uM_lo (by omega), rfl⟩⟩
noncomputable def sKC (Ch : Nat → Bool) (b n : Nat) (t : Nat → sC) (K : Nat → Bool) (m0 m : sM) : Bool := Bool.and (fitM b n t K m) (frM b Ch m0 (nat_lit 0) m)
theorem kpC_run {Ch : Nat → Bool} {b n : Nat} {r : sE} {al : Nat → Nat} {t tv : Nat → sC} {K : Nat → Bool} {m0 m : sM} (hb : b + n ≤ 200) (ht : tOk b n t tv) (hct : cC b n t r) (h0 : ovP r al n t K m0) (hf : fitM b n t K m = true) (h : frM b Ch m0 0 m = true) : kpC Ch b n tv r (eOf b r m) := by
  have hc2 : cC b n t (eOf b r m) := cC_fit hf (fun _ _ _ => rfl) hct (fun i hi => (ht i hi).1)
  refine ⟨fun u hu hs => ?_, fun u hu hs => ?_, fun u hu _ => eOf_hi (by rw [(fitM_ok hf).1]; omega)⟩
  · obtain ⟨u1, u2, u3⟩ := isV_ok hu
    obtain ⟨i, hi⟩ : ∃ i, u / 4096 = b + i := ⟨u / 4096 - b, by omega⟩
    have e1 : u / 4096 - b = i := by omega
    have hin : i < n := by omega
    have e2 : u = 4096 * (b + i) + u % 4096 := by omega
    have hj : u % 4096 < 4096 := Nat.mod_lt _ (by omega)
    rw [e1] at u3
    obtain ⟨g1, g2, g3⟩ := spC_at (ht i hin).2
    have hjl : u % 4096 < (t i).2.2.length := by rw [g1]; exact (List.getElem?_eq_some_iff.mp u3).1
    have hx := List.getElem?_eq_getElem hjl
    obtain ⟨y, y1, y2⟩ := g3 _ _ hx
    rw [u3] at y1
    cases y1
    generalize (t i).2.2[u % 4096] = x at hx y2
    rcases (spV_I y2).2 with rfl | ⟨k, rfl⟩
    · rw [e2]
      exact fr_ok (fun i hi => (ht i hi).1.1) h0 hf h (isV_mk hin hj hx) (by rw [← e2]; exact hs)
    · rw [e2, (hc2 i hin _ k).1 hx, (hct i hin _ k).1 hx]
  · obtain ⟨u1, u2, u3⟩ := isL_ok hu
    obtain ⟨i, hi⟩ : ∃ i, u / 4096 = b + i := ⟨u / 4096 - b, by omega⟩
    have e1 : u / 4096 - b = i := by omega
    have hin : i < n := by omega
    have e2 : u = 4096 * (b + i) + u % 4096 := by omega
    have hj : u % 4096 < 4096 := Nat.mod_lt _ (by omega)
    rw [e1] at u3
    obtain ⟨g1, g2, g3⟩ := spC_at (ht i hin).2
    have hjl : u % 4096 < (t i).2.2.length := by rw [g1]; exact (List.getElem?_eq_some_iff.mp u3).1
    have hx := List.getElem?_eq_getElem hjl
    obtain ⟨y, y1, y2⟩ := g3 _ _ hx
    rw [u3] at y1
    cases y1
    generalize (t i).2.2[u % 4096] = x at hx y2
    rcases (spV_J y2).2 with rfl | ⟨k, rfl⟩
    · rw [e2]
      exact fr_okL (fun i hi => (ht i hi).1.1) h0 hf h (isL_mk hin hj hx) (by rw [← e2]; exact hs)
    · rw [e2, (hc2 i hin _ k).2 hx, (hct i hin _ k).2 hx]
theorem c_runC {Ch : Nat → Bool} (l : Launch) {D : va_G} {cy : Nat → ClassId} {al : Nat → Nat} {rest : va_W} {r : sE} {b n fuel d k : Nat} {t tv : Nat → sC} {K : Nat → Bool} {ovs : List sOv} {pa : List sK} {as : List sV} {kr : sM → sKr} (hb : b + n ≤ 200) (ht : tOk b n t tv) (hct : cC b n t r) (hp : sPa r pa) (hov : ∀ q ∈ ovs, r.1 (4096 * (b + q.1) + q.2.1) = sI r q.2.2)
    (h : sBeg b n t K ovs (fun m0 => sRun fuel d k pa m0 as (fun v pa m => Bool.and (sKC Ch b n t K m0 m) (kr m0 v pa m))) = true) {G : Option Value → va_W → Prop}
    (hG : ∀ (m0 : sM) (v : Option sV) (pa : List sK) (m : sM), kr m0 v pa m = true → sPa r pa → kpC Ch b n tv r (eOf b r m) → G (v.map (sVal r al)) (tW (eOf b r m) al cy rest n tv)) : gMet l D cy al d k (tW r al cy rest n tv) (as.map (sVal r al)) G := by
  unfold sBeg at h
  rw [Bool.and_eq_true] at h
  have hP := ovP_ovr (b := b) (ovP_msk (r := r) (al := al) (n := n) (t := t) (K := K)) ovs h.1 hov
  have hw := ovP_w (cy := cy) (rest := rest) (fun i hi => (ht i hi).1.1) hP
  rw [← cC_w (fun i hi => (ht i hi).2) hct, ← hw]
  refine gMet_run l hp h.2 (fun v pa1 m h1 h2 => ?_)
  unfold sKC at h1
  rw [Bool.and_eq_true, Bool.and_eq_true] at h1
  rw [fit_w h1.1.1 (fun i hi hK => ⟨rfl, (ht i hi).1.2⟩), cC_w (fun i hi => (ht i hi).2) (cC_fit h1.1.1 (fun _ _ _ => rfl) hct (fun i hi => (ht i hi).1))]
  exact hG _ v pa1 m h1.2 h2 (kpC_run hb ht hct hP h1.1.1 h1.1.2)
/-- a segment that touches Ch alone -/
theorem g_segC {Ch : Nat → Bool} {l : Launch} {D : va_G} {cy : Nat → ClassId} {al : Nat → Nat} {rest : va_W} {r : sE} {b n fuel d k pc : Nat} {L : sL} {st : List sV} {t tv : Nat → sC} {K : Nat → Bool} {ovs : List sOv} {pa : List sK} {stop : Nat → Bool} {ks : sM → sKs} {kr : sM → sKr} {Rt : Option Value → va_W → Prop} {At : gAt} (hFC : gFC l D cy al k d Rt At) (hb : b + n ≤ 200) (ht : tOk b n t tv) (hct : cC b n t r) (hp : sPa r pa) (hov : ∀ q ∈ ovs, r.1 (4096 * (b + q.1) + q.2.1) = sI r q.2.2)
    (h : sBeg b n t K ovs (fun m0 => sx PG fuel d (PG k) stop (fun pc L st pa m => Bool.and (sKC Ch b n t K m0 m) (ks m0 pc L st pa m)) (fun v pa m => Bool.and (sKC Ch b n t K m0 m) (kr m0 v pa m)) pc L st pa m0) = true)
    (hS : ∀ (m0 : sM) (pc : Nat) (L : sL) (st : List sV) (pa : List sK) (m : sM), ks m0 pc L st pa m = true → sPa r pa → kpC Ch b n tv r (eOf b r m) → At pc (L.map (Option.map (sVal r al))) (st.map (sVal r al)) (tW (eOf b r m) al cy rest n tv))
    (hR : ∀ (m0 : sM) (v : Option sV) (pa : List sK) (m : sM), kr m0 v pa m = true → sPa r pa → kpC Ch b n tv r (eOf b r m) → Rt (v.map (sVal r al)) (tW (eOf b r m) al cy rest n tv)) : At pc (L.map (Option.map (sVal r al))) (st.map (sVal r al)) (tW r al cy rest n tv) := by
  unfold sBeg at h
  rw [Bool.and_eq_true] at h
  have hP := ovP_ovr (b := b) (ovP_msk (r := r) (al := al) (n := n) (t := t) (K := K)) ovs h.1 hov
  have hw := ovP_w (cy := cy) (rest := rest) (fun i hi => (ht i hi).1.1) hP
  rw [← cC_w (fun i hi => (ht i hi).2) hct, ← hw]
  have back : ∀ m : sM, sKC Ch b n t K (ovr ovs (msk n t K)) m = true → sW r al cy (mHid r al cy t) rest m = tW (eOf b r m) al cy rest n tv ∧ kpC Ch b n tv r (eOf b r m) := fun m h1 => by
    unfold sKC at h1
    rw [Bool.and_eq_true] at h1
    rw [fit_w h1.1 (fun i hi hK => ⟨rfl, (ht i hi).1.2⟩), cC_w (fun i hi => (ht i hi).2) (cC_fit h1.1 (fun _ _ _ => rfl) hct (fun i hi => (ht i hi).1))]
    exact ⟨rfl, kpC_run hb ht hct hP h1.1 h1.2⟩
  refine hFC.1 r _ rest _ _ _ _ pc L st pa _ h.2 hp (fun pc L st pa m hk hp => ?_) (fun v pa m hk hp => ?_)
  · rw [Bool.and_eq_true] at hk
    obtain ⟨g1, g2⟩ := back m hk.1
    rw [g1]
    exact hS _ pc L st pa m hk.2 hp g2
  · rw [Bool.and_eq_true] at hk
    obtain ⟨g1, g2⟩ := back m hk.1
    rw [g1]
    exact hR _ v pa m hk.2 hp g2
-- the model's long row: cell 20
noncomputable def vrL (l : List sV) : Nat → Bool := List.rec (motive := fun _ => Nat → Bool) (fun _ => true) (fun x _ ih w => Bool.and (eqV x (.inl (.var w))) (ih (Nat.succ w))) l
theorem vrL_ok : ∀ (l : List sV) (w : Nat), vrL l w = true → ∀ j, j < l.length → l[j]? = some (.inl (.var (w + j)))
  | [], w, _, j, hj => by simp at hj
  | x :: l, w, h, j, hj => by
    have h2 : Bool.and (eqV x (.inl (.var w))) (vrL l (Nat.succ w)) = true := h
    rw [Bool.and_eq_true] at h2
    cases j with
    | zero => rw [eqV_ok h2.1]; rfl
    | succ j =>
      have := vrL_ok l _ h2.2 j (by simpa using hj)
      rw [List.getElem?_cons_succ, this]
      rw [show Nat.succ w + j = w + (j + 1) by omega]
theorem num_len0 : sLn (tMv 20).2.2 = 3125 := by decide +kernel
theorem num_kd : (tMv 20).1 = 1 := by decide +kernel
theorem num_vr : vrL (tMv 20).2.2 (nat_lit 364544) = true := by decide +kernel
theorem num_len : (tMv 20).2.2.length = 3125 := by rw [← sLn_ok]; exact num_len0
theorem num_at {r : sE} {j : Nat} (hj : j < 3125) : sInt r (tMv 20).2.2[j]? = r.1 (mP 20 j) := by
  rw [vrL_ok _ _ num_vr j (by rw [num_len]; exact hj)]
  show sI r (.var (364544 + j)) = _
  rw [sI_v]
  exact congrArg r.1 (show 364544 + j = mP 20 j by unfold mP; omega)
theorem num_no {j : Nat} (hj : ¬ j < 3125) : (tMv 20).2.2[j]? = none := List.getElem?_eq_none (by rw [num_len]; omega)
theorem num_ce {r : sE} {al : Nat → Nat} {cy : Nat → ClassId} {hid : Nat → va_E} {t : sC} (hl : t.2.2.length = 3125) (hk : t.1 = 1) : sCe r al cy hid t = (Sum.inl (cy 1, 3125, Sum.inl (fun j => sInt r t.2.2[j]?)) : va_E) := by
  obtain ⟨k, u, vs⟩ := t
  have hk2 : k = 1 := hk
  subst hk2
  have hl2 : vs.length = 3125 := hl
  show (Sum.inl (cy 1, vs.length, Sum.inl (fun j => sInt r vs[j]?)) : va_E) = _
  rw [hl2]
theorem num_w {r : sE} {al : Nat → Nat} {cy : Nat → ClassId} {rest : va_W} : (tW r al cy rest 45 tMv)[20]? = some (al 20, (Sum.inl (cy 1, 3125, Sum.inl (fun j => sInt r (tMv 20).2.2[j]?)) : va_E)) := by
  unfold tW
  rw [List.getElem?_append_left (by rw [List.length_map, List.length_range]; omega), List.getElem?_map, List.getElem?_range (by omega), Option.map_some, num_ce num_len num_kd]
def rW (r : sE) (u : Nat) (x : Int32) : sE := (fun v => if v = u then x else r.1 v, r.2)
theorem num_upd {r : sE} {j : Nat} {x : Int32} (hj : j < 3125) : upd (fun j => sInt r (tMv 20).2.2[j]?) j x = fun i => sInt (rW r (mP 20 j) x) (tMv 20).2.2[i]? := by
  funext i
  unfold upd
  show (if i = j then x else sInt r (tMv 20).2.2[i]?) = sInt (rW r (mP 20 j) x) (tMv 20).2.2[i]?
  by_cases hi : i < 3125
  · rw [num_at hi, num_at hi]
    by_cases e2 : i = j
    · subst e2
      simp [rW]
    · have : mP 20 i ≠ mP 20 j := by unfold mP; omega
      simp only [rW, if_neg this, if_neg e2]
  · rw [num_no hi, if_neg (show ¬ i = j by omega)]
    simp only [sInt]
theorem num_st {r : sE} {al : Nat → Nat} {cy : Nat → ClassId} {rest : va_W} {j : Nat} {x : Int32} (hj : j < 3125) : (tW r al cy rest 45 tMv).set 20 (al 20, (Sum.inl (cy 1, 3125, Sum.inl (upd (fun j => sInt r (tMv 20).2.2[j]?) j x)) : va_E)) = tW (rW r (mP 20 j) x) al cy rest 45 tMv := by
  rw [num_upd hj]
  apply List.ext_getElem?
  intro i
  rw [List.getElem?_set]
  by_cases e : 20 = i
  · subst e
    rw [if_pos rfl, if_pos (by unfold tW; rw [List.length_append, List.length_map, List.length_range]; omega), num_w]
  · rw [if_neg e]
    unfold tW
    by_cases hi : i < 45
    · rw [List.getElem?_append_left (by rw [List.length_map, List.length_range]; exact hi), List.getElem?_append_left (by rw [List.length_map, List.length_range]; exact hi), List.getElem?_map, List.getElem?_map, List.getElem?_range hi]
      show some (al i, sCe r al cy _ (tMv i)) = some (al i, sCe (rW r (mP 20 j) x) al cy _ (tMv i))
      have hq : ∀ v, v < 4096 → (rW r (mP 20 j) x).1 (4096 * (69 + i) + v) = r.1 (4096 * (69 + i) + v) ∧ (rW r (mP 20 j) x).2 (4096 * (69 + i) + v) = r.2 (4096 * (69 + i) + v) := fun v hv => ⟨by
        show (if 4096 * (69 + i) + v = mP 20 j then x else r.1 (4096 * (69 + i) + v)) = _
        rw [if_neg (by unfold mP; omega)], rfl⟩
      rw [canC_ok (r := r) (r2 := rW r (mP 20 j) x) (tMv_can i hi).2 hq]
    · rw [List.getElem?_append_right (by rw [List.length_map, List.length_range]; omega), List.getElem?_append_right (by rw [List.length_map, List.length_range]; omega), List.length_map, List.length_map]
