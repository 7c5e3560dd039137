/-! 96: acts, the class: the sums (by wip/whole/mk96.py) -/
/-- what the run did not see stands -/
theorem fit_out {b n i j : Nat} {r : sE} {t : Nat → sC} {K : Nat → Bool} {m : sM} (hf : fitM b n t K m = true) (hi : i < n) (hK : K i = false) (hj : j < 4096) : (eOf b r m).1 (4096 * (b + i) + j) = r.1 (4096 * (b + i) + j) := by
  obtain ⟨hl, h1⟩ := fitM_ok hf
  have hil : i < m.length := by omega
  rcases h1 i _ (List.getElem?_eq_getElem hil) with ⟨q, -⟩ | ⟨-, q⟩
  · rw [hK] at q
    exact nomatch q
  · exact (eOf_h (u := i) (vs := []) (by rw [List.getElem?_eq_getElem hil, q]) hj).1
theorem c_runK (l : Launch) {D : va_G} {cy : Nat → ClassId} {al : Nat → Nat} {rest : va_W} {r : sE} {b n fuel d k : Nat} {t tv : Nat → sC} {K : Nat → Bool} {ovs : List sOv} {pa : List sK} {as : List sV} {kr : sM → sKr} (hb : b + n ≤ 200) (ht : tOk b n t tv) (hct : cC b n t r) (hp : sPa r pa) (hov : ∀ q ∈ ovs, r.1 (4096 * (b + q.1) + q.2.1) = sI r q.2.2)
    (h : sBeg b n t K ovs (fun m0 => sRun fuel d k pa m0 as (fun v pa m => Bool.and (sK0 b n t K m0 m) (kr m0 v pa m))) = true) {G : Option Value → va_W → Prop}
    (hG : ∀ (m0 : sM) (v : Option sV) (pa : List sK) (m : sM), kr m0 v pa m = true → sPa r pa → fitM b n t K m = true → kp b n tv r (eOf b r m) → G (v.map (sVal r al)) (tW (eOf b r m) al cy rest n tv)) : gMet l D cy al d k (tW r al cy rest n tv) (as.map (sVal r al)) G := by
  unfold sBeg at h
  rw [Bool.and_eq_true] at h
  have hP := ovP_ovr (b := b) (ovP_msk (r := r) (al := al) (n := n) (t := t) (K := K)) ovs h.1 hov
  have hw := ovP_w (cy := cy) (rest := rest) (fun i hi => (ht i hi).1.1) hP
  rw [← cC_w (fun i hi => (ht i hi).2) hct, ← hw]
  refine gMet_run l hp h.2 (fun v pa1 m h1 h2 => ?_)
  unfold sK0 at h1
  rw [Bool.and_eq_true, Bool.and_eq_true] at h1
  rw [fit_w h1.1.1 (fun i hi hK => ⟨rfl, (ht i hi).1.2⟩), cC_w (fun i hi => (ht i hi).2) (cC_fit h1.1.1 (fun _ _ _ => rfl) hct (fun i hi => (ht i hi).1))]
  exact hG _ v pa1 m h1.2 h2 h1.1.1 (kp_run hb ht hct hP h1.1.1 h1.1.2)
theorem g_segK {l : Launch} {D : va_G} {cy : Nat → ClassId} {al : Nat → Nat} {rest : va_W} {r : sE} {b n fuel d k pc : Nat} {L : sL} {st : List sV} {t tv : Nat → sC} {K : Nat → Bool} {ovs : List sOv} {pa : List sK} {stop : Nat → Bool} {ks : sM → sKs} {kr : sM → sKr} {Rt : Option Value → va_W → Prop} {At : gAt} (hFC : gFC l D cy al k d Rt At) (hb : b + n ≤ 200) (ht : tOk b n t tv) (hct : cC b n t r) (hp : sPa r pa) (hov : ∀ q ∈ ovs, r.1 (4096 * (b + q.1) + q.2.1) = sI r q.2.2)
    (h : sBeg b n t K ovs (fun m0 => sx PG fuel d (PG k) stop (fun pc L st pa m => Bool.and (sK0 b n t K m0 m) (ks m0 pc L st pa m)) (fun v pa m => Bool.and (sK0 b n t K m0 m) (kr m0 v pa m)) pc L st pa m0) = true)
    (hS : ∀ (m0 : sM) (pc : Nat) (L : sL) (st : List sV) (pa : List sK) (m : sM), ks m0 pc L st pa m = true → sPa r pa → fitM b n t K m = true → kp b n tv r (eOf b r m) → At pc (L.map (Option.map (sVal r al))) (st.map (sVal r al)) (tW (eOf b r m) al cy rest n tv))
    (hR : ∀ (m0 : sM) (v : Option sV) (pa : List sK) (m : sM), kr m0 v pa m = true → sPa r pa → fitM b n t K m = true → kp b n tv r (eOf b r m) → Rt (v.map (sVal r al)) (tW (eOf b r m) al cy rest n tv)) : At pc (L.map (Option.map (sVal r al))) (st.map (sVal r al)) (tW r al cy rest n tv) := by
  unfold sBeg at h
  rw [Bool.and_eq_true] at h
  have hP := ovP_ovr (b := b) (ovP_msk (r := r) (al := al) (n := n) (t := t) (K := K)) ovs h.1 hov
  have hw := ovP_w (cy := cy) (rest := rest) (fun i hi => (ht i hi).1.1) hP
  rw [← cC_w (fun i hi => (ht i hi).2) hct, ← hw]
  have back : ∀ m : sM, sK0 b n t K (ovr ovs (msk n t K)) m = true → sW r al cy (mHid r al cy t) rest m = tW (eOf b r m) al cy rest n tv ∧ kp b n tv r (eOf b r m) := fun m h1 => by
    unfold sK0 at h1
    rw [Bool.and_eq_true] at h1
    rw [fit_w h1.1 (fun i hi hK => ⟨rfl, (ht i hi).1.2⟩), cC_w (fun i hi => (ht i hi).2) (cC_fit h1.1 (fun _ _ _ => rfl) hct (fun i hi => (ht i hi).1))]
    exact ⟨rfl, kp_run hb ht hct hP h1.1 h1.2⟩
  refine hFC.1 r _ rest _ _ _ _ pc L st pa _ h.2 hp (fun pc L st pa m hk hp => ?_) (fun v pa m hk hp => ?_)
  · rw [Bool.and_eq_true] at hk
    obtain ⟨g1, g2⟩ := back m hk.1
    rw [g1]
    exact hS _ pc L st pa m hk.2 hp (by have h1 := hk.1; unfold sK0 at h1; rw [Bool.and_eq_true] at h1; exact h1.1) g2
  · rw [Bool.and_eq_true] at hk
    obtain ⟨g1, g2⟩ := back m hk.1
    rw [g1]
    exact hR _ v pa m hk.2 hp (by have h1 := hk.1; unfold sK0 at h1; rw [Bool.and_eq_true] at h1; exact h1.1) g2
section TCY
variable {D : va_G} {cy : Nat → ClassId} {al : Nat → Nat} {rest : va_W}
theorem c_swY (l : Launch) {c d : Nat} {r : sE} {t : List Nat} (hd : 6 ≤ d) (hc : c < 18) (hcc : cC 0 68 (tX c) r) (ht : t ∈ ordN (nOf c)) (hr : ∀ i, i < nOf c → r.1 (xP 22 i) = Int32.ofNat (nthO t i)) : gMet l D cy al d 82 (tW r al cy rest 68 tXv) [.ref (al 14)] (fun v w => v = none ∧ ∃ r1, kp 0 68 tXv r r1 ∧ (∀ j, j < 20 → r1.1 (xP 47 j) = r.1 (xP 47 j)) ∧ (∀ j, j < dOf c → r1.1 (xP 23 j) = Int32.ofInt (cwT c t j) ∧ bdI (cwT c t j) = true) ∧ w = tW r1 al cy rest 68 tXv) := by
  refine gMet_up hd ?_
  have d6 := (cd_tab c hc).1.2
  refine c_runK l (as := [.inr (.inr (some (nat_lit 14)))]) (r := r) (by omega) (tX_ok hc) hcc sPa_nil (oFl_ok _ hr) (q_sw hc ht) (fun m0 v pa m hk hp hf hkp => ?_)
  rw [Bool.and_eq_true] at hk
  refine ⟨by rw [eqO_ok hk.1]; rfl, _, hkp, (fun j hj => by rw [show xP 47 j = 4096 * (0 + 47) + j by unfold xP; omega]; exact fit_out hf (by omega) (by decide) (by omega)), fun j hj => ?_, rfl⟩
  obtain ⟨⟨kd, u, vs⟩, h1, h2⟩ := sGet_ok _ _ _ (allL_ok hk.2 j hj)
  rw [Bool.and_eq_true] at h2
  obtain ⟨v, h3, h4⟩ := sGet_ok _ _ _ h2.2
  obtain ⟨e, rfl, h5⟩ := sVI_ok h4
  obtain ⟨z, rfl, h6⟩ := sNum_ok h5
  have h6 : Bool.and (chkI z (cwT c t j)) (bdI (cwT c t j)) = true := h6
  rw [Bool.and_eq_true] at h6
  have := (eOf_i (b := 0) (r := r) h1 (Nat.le_of_ble_eq_true h2.1) (show j < 4096 by omega)).1
  rw [h3] at this
  rw [show xP 23 j = 4096 * (0 + 23) + j by unfold xP; omega, this]
  exact ⟨by show sI r (.natCast z) = _; rw [sI_c, chkI_ok h6.1], h6.2⟩
/-- .. of standard k, taken -/
theorem c_stY (l : Launch) {c d k : Nat} {r : sE} {o : List Nat} (hd : 7 ≤ d) (hc : c < 18) (hk : k < dOf c) (hcc : cC 0 68 (tX c) r) (ho : o ∈ ordN (nOf c)) : gMet l D cy al d 84 (tW r al cy rest 68 tXv) [.ref (al 14), .int (Int32.ofNat k), .int (Int32.ofNat (ocode o))] (fun v w => v = none ∧ ∃ r1, kp 0 68 tXv r r1 ∧ (∀ j, j < 20 → r1.1 (xP 47 j) = r.1 (xP 47 j)) ∧ (∀ j, j < dOf c → r1.1 (xP 23 j) = Int32.ofInt (cwT c (tG c k o) j) ∧ bdI (cwT c (tG c k o) j) = true) ∧ w = tW r1 al cy rest 68 tXv) := by
  refine gMet_up hd ?_
  obtain ⟨⟨d1, d6⟩, n1, n5⟩ := cd_tab c hc
  have hw : ∀ x : sE, tW (uM x [Int32.ofNat (ocode o)]) al cy rest 68 tXv = tW x al cy rest 68 tXv := fun x => tW_uM (by omega) tXv_can
  have E0 : sI (uM r [Int32.ofNat (ocode o)]) (.var (nat_lit 819290)) = Int32.ofNat (ocode o) := by rw [sI_v]; exact uM_v 0
  have key := gMet_of (l := l) (D := D) (cy := cy) (al := al) (d := 7) (k := 84) (w := tW r al cy rest 68 tXv) (r := uM r [Int32.ofNat (ocode o)]) (G := fun v w => v = none ∧ ∃ r1, kp 0 68 tXv r r1 ∧ (∀ j, j < 20 → r1.1 (xP 47 j) = r.1 (xP 47 j)) ∧ (∀ j, j < dOf c → r1.1 (xP 23 j) = Int32.ofInt (cwT c (tG c k o) j) ∧ bdI (cwT c (tG c k o) j) = true) ∧ w = tW r1 al cy rest 68 tXv) (allL_ok q_t4E k (by omega)) (fun At hFC => ?_)
  · rw [show List.map (sVal (uM r [Int32.ofNat (ocode o)]) al) [.inr (.inr (some (nat_lit 14))), .inl (.natCast k), .inl (.var (nat_lit 819290))] = [.ref (al 14), .int (Int32.ofNat k), .int (Int32.ofNat (ocode o))] by simp only [List.map_cons, List.map_nil, sVal, sI_c, E0]] at key
    exact key
  have g := g_segK hFC (r := uM r [Int32.ofNat (ocode o)]) (al := al) (cy := cy) (rest := rest) (by omega) (tX_ok hc) (kpX_cC hc (kp_uM (by omega)) hcc) sPa_nil oX_nil (allL_ok (allL_ok q_t4 c hc) k hk) (fun m0 pc L st pa m h1 h2 hf hkp => ?_) (fun m0 v pa m h1 => nomatch h1)
  · rw [hw] at g
    exact g
  rw [Bool.and_eq_true] at h1
  obtain ⟨rfl, rfl, rfl⟩ := kAt_ok h1.1
  have hk1 : kp 0 68 tXv r (eOf 0 (uM r [Int32.ofNat (ocode o)]) m) := kp_trans (kp_uM (by omega)) hkp
  have hfil : ∀ e, e < nOf c → (eOf 0 (uM r [Int32.ofNat (ocode o)]) m).1 (xP 22 e) = Int32.ofNat (nthO (tG c k o) e) := fun e he => by
    have h5 := ci_tab c hc k hk e (by omega)
    have h6 := isE_ok (b := 0) (r := uM r [Int32.ofNat (ocode o)]) (show e < 4096 by omega) (allL_ok h1.2 e he)
    have h7 := q_tg hc hk ho
    unfold tgT at h7
    rw [Bool.and_eq_true, Bool.and_eq_true] at h7
    have h8 := Nat.eq_of_beq_eq_true (allL_ok h7.2.1 e he)
    rw [show xP 22 e = 4096 * (0 + 22) + e by unfold xP; omega, h6, tgE_ok (ordN_in ho) h5 (uM_v 0), show nthO (tG c k o) e = _ from h8, nthO_eq o]
  refine hFC.2 14 17 82 6 _ [.ref (al 14)] [] _ _ ⟨_, _, rfl, rfl⟩ rfl (by decide) rfl (Or.inr ⟨al 14, [], 14, (tXv 14).2.2.map (sVal (eOf 0 (uM r [Int32.ofNat (ocode o)]) m) al), rfl, ?_⟩) (c_swY l (by omega) hc (kpX_cC hc hk1 hcc) (tG_in hc hk ho) hfil) (fun v2 w2 h => ?_)
  · unfold tW
    rw [List.getElem?_append_left (by rw [List.length_map, List.length_range]; omega), List.getElem?_map, List.getElem?_range (by omega)]
    rfl
  obtain ⟨rfl, r2, j1, j0, j2, rfl⟩ := h
  have kr := g_ret (v := none) hFC (r := uM r [Int32.ofNat (ocode o)]) (w := tW r2 al cy rest 68 tXv) (allL_ok q_t4r k (by omega)) (fun v0 h0 => by rw [eqO_ok h0]; rfl) ⟨rfl, r2, kp_trans hk1 j1, (fun j hj => (j0 j hj).trans (((show xP 47 j = 4096 * (0 + 47) + j by unfold xP; omega) ▸ fit_out hf (by omega) (by decide) (by omega)).trans (uM_lo (by unfold xP; omega)))), j2, rfl⟩
  exact kr
end TCY
/-- the sums of the first k: at j -/
noncomputable def acS (c : Nat) (o : List Nat) (v : Nat → Int) (k j : Nat) : Int := Nat.rec (motive := fun _ => Int) 0 (fun k ih => ih + v k * cwT c (tG c k o) j) k
noncomputable def acF (c : Nat) (o : List Nat) (k : Nat) : Prop := ∀ i, i < k → ∀ j, j < dOf c → bdI (cwT c (tG c i o) j) = true
theorem acS_bd {c : Nat} {o : List Nat} {v : Nat → Int} {j : Nat} (hj : j < dOf c) : ∀ k, k ≤ 6 → acF c o k → (∀ i, i < k → -999 ≤ v i ∧ v i ≤ 999) → -(98901 * (k : Int)) ≤ acS c o v k j ∧ acS c o v k j ≤ 98901 * (k : Int)
  | 0, _, _, _ => ⟨by show -(98901 * 0) ≤ (0 : Int); omega, by show (0 : Int) ≤ 98901 * 0; omega⟩
  | k + 1, hk, h, hv => by
    have ih := acS_bd hj k (by omega) (fun i hi => h i (by omega)) (fun i hi => hv i (by omega))
    have h1 := bdI_ok (h k (by omega) j hj)
    have h2 := hv k (by omega)
    have e : acS c o v (k + 1) j = acS c o v k j + v k * cwT c (tG c k o) j := rfl
    have h3 : (v k * cwT c (tG c k o) j).natAbs ≤ 999 * 99 := by
      rw [Int.natAbs_mul]
      exact Nat.mul_le_mul (by omega) (by omega)
    rw [e]
    omega
noncomputable def LAc (s : Nat) (k : Nat) (x : Option sV) : sL := [some (.inr (.inr (some (nat_lit 14)))), some (.inr (.inr (some (Nat.add (nat_lit 37) (Nat.mul (nat_lit 2) s))))), some (.inl (.var (nat_lit 819290))), some (.inr (.inr (some (nat_lit 47)))), some (.inl (.natCast k)), x]
noncomputable def lA5 (d k : Nat) : Option sV := Nat.rec (motive := fun _ => Option sV) none (fun _ _ => some (.inl (.natCast d))) k
noncomputable def eAc (s k j : Nat) : sX := .pow (.mul (.var (Nat.add (nat_lit 192512) j)) (.pow (.mul (.var (Nat.add (Nat.mul (nat_lit 4096) (Nat.add (nat_lit 37) (Nat.mul (nat_lit 2) s))) k)) (.var (Nat.add (nat_lit 94208) j))) (nat_lit 2))) (nat_lit 0)
noncomputable def ac0 (c s : Nat) : Bool := sBeg (nat_lit 0) (nat_lit 68) (tX c) (memB [(nat_lit 1), (nat_lit 14), (nat_lit 23), (nat_lit 47), Nat.add (nat_lit 37) (Nat.mul (nat_lit 2) s)]) [] (fun m0 => sx PG (nat_lit 1000) (nat_lit 9) (PG (nat_lit 86)) (fun pc => Nat.beq pc (nat_lit 45)) (fun pc L st pa m => Bool.and (sK0 (nat_lit 0) (nat_lit 68) (tX c) (memB [(nat_lit 1), (nat_lit 14), (nat_lit 23), (nat_lit 47), Nat.add (nat_lit 37) (Nat.mul (nat_lit 2) s)]) m0 m) (Bool.and (kAt (nat_lit 45) (LAc s (nat_lit 0) none) [.inl (.var (nat_lit 819290)), .inl (.natCast (nat_lit 0)), .inr (.inr (some (nat_lit 14)))] pc L st) (allL (dOf c) (fun j => isE m (nat_lit 47) j (.natCast (nat_lit 0)))))) (fun _ _ m => Bool.and (sK0 (nat_lit 0) (nat_lit 68) (tX c) (memB [(nat_lit 1), (nat_lit 14), (nat_lit 23), (nat_lit 47), Nat.add (nat_lit 37) (Nat.mul (nat_lit 2) s)]) m0 m) false) (nat_lit 0) [some (.inr (.inr (some (nat_lit 14)))), some (.inr (.inr (some (Nat.add (nat_lit 37) (Nat.mul (nat_lit 2) s))))), some (.inl (.var (nat_lit 819290))), some (.inr (.inr (some (nat_lit 47)))), none, none] [] [] m0)
noncomputable def ac1 (c s k : Nat) : Bool := sBeg (nat_lit 0) (nat_lit 68) (tX c) (memB [(nat_lit 1), (nat_lit 14), (nat_lit 23), (nat_lit 47), Nat.add (nat_lit 37) (Nat.mul (nat_lit 2) s)]) [] (fun m0 => sx PG (nat_lit 1000) (nat_lit 9) (PG (nat_lit 86)) (fun pc => Nat.beq pc (nat_lit 45)) (fun pc L st pa m => Bool.and (sK0 (nat_lit 0) (nat_lit 68) (tX c) (memB [(nat_lit 1), (nat_lit 14), (nat_lit 23), (nat_lit 47), Nat.add (nat_lit 37) (Nat.mul (nat_lit 2) s)]) m0 m) (Bool.and (Nat.ble (Nat.succ (Nat.succ k)) (dOf c)) (Bool.and (kAt (nat_lit 45) (LAc s (Nat.succ k) (lA5 (dOf c) (Nat.succ k))) [.inl (.var (nat_lit 819290)), .inl (.natCast (Nat.succ k)), .inr (.inr (some (nat_lit 14)))] pc L st) (allL (dOf c) (fun j => isE m (nat_lit 47) j (eAc s k j)))))) (fun v _ m => Bool.and (sK0 (nat_lit 0) (nat_lit 68) (tX c) (memB [(nat_lit 1), (nat_lit 14), (nat_lit 23), (nat_lit 47), Nat.add (nat_lit 37) (Nat.mul (nat_lit 2) s)]) m0 m) (Bool.and (Nat.beq (Nat.succ k) (dOf c)) (Bool.and (eqO v none) (allL (dOf c) (fun j => isE m (nat_lit 47) j (eAc s k j)))))) (nat_lit 48) (LAc s k (lA5 (dOf c) k)) [] [] m0)
theorem q_ac : allL 18 (fun c => allL 4 (fun s => Bool.and (ac0 c s) (allL (dOf c) (fun k => ac1 c s k)))) = true := by decide +kernel
theorem q_acE : allL 4 (fun s => sEnt [.inr (.inr (some (nat_lit 14))), .inr (.inr (some (Nat.add (nat_lit 37) (Nat.mul (nat_lit 2) s)))), .inl (.var (nat_lit 819290)), .inr (.inr (some (nat_lit 47)))] (PG (nat_lit 86)).2.1 (fun L => eqL eqO L [some (.inr (.inr (some (nat_lit 14)))), some (.inr (.inr (some (Nat.add (nat_lit 37) (Nat.mul (nat_lit 2) s))))), some (.inl (.var (nat_lit 819290))), some (.inr (.inr (some (nat_lit 47)))), none, none])) = true := by decide +kernel
theorem ac_pl : ∀ s, s < 4 → ∀ j, j < 20 → isV 0 68 tXv (xP (37 + 2 * s) j) = true ∧ scQ (xP (37 + 2 * s) j) = false := by decide +kernel
section AC
variable {D : va_G} {cy : Nat → ClassId} {al : Nat → Nat} {rest : va_W}
theorem LAc_eq {x : sE} {s k : Nat} {y : Option sV} : (LAc s k y).map (Option.map (sVal x al)) = [some (.ref (al 14)), some (.ref (al (37 + 2 * s))), some (.int (sI x (.var (nat_lit 819290)))), some (.ref (al 47)), some (.int (Int32.ofNat k)), y.map (sVal x al)] := by
  simp only [LAc, List.map_cons, List.map_nil, Option.map_some, sVal, sI_c]
  rfl
theorem lA5_eq {x y : sE} {d k : Nat} : (lA5 d k).map (sVal x al) = (lA5 d k).map (sVal y al) := by
  cases k with
  | zero => rfl
  | succ k => rfl
/-- the class' act -/
theorem c_acX (l : Launch) {c d s : Nat} {r : sE} {o : List Nat} {v : Nat → Int} (hd : 9 ≤ d) (hc : c < 18) (hs : s < 4) (hcc : cC 0 68 (tX c) r) (ho : o ∈ ordN (nOf c)) (hv : ∀ i, i < dOf c → r.1 (xP (37 + 2 * s) i) = Int32.ofInt (v i)) : gMet l D cy al d 86 (tW r al cy rest 68 tXv) [.ref (al 14), .ref (al (37 + 2 * s)), .int (Int32.ofNat (ocode o)), .ref (al 47)] (fun x w => x = none ∧ acF c o (dOf c) ∧ ∃ r1, kp 0 68 tXv r r1 ∧ (∀ j, j < dOf c → r1.1 (xP 47 j) = Int32.ofInt (acS c o v (dOf c) j)) ∧ w = tW r1 al cy rest 68 tXv) := by
  refine gMet_up hd ?_
  obtain ⟨⟨d1, d6⟩, n1, n5⟩ := cd_tab c hc
  have hw : ∀ (x : sE) l, tW (uM x l) al cy rest 68 tXv = tW x al cy rest 68 tXv := fun x l => tW_uM (by omega) tXv_can
  have hq := allL_ok (allL_ok q_ac c hc) s hs
  rw [Bool.and_eq_true] at hq
  have key := gMet_of (l := l) (D := D) (cy := cy) (al := al) (d := 9) (k := 86) (w := tW r al cy rest 68 tXv) (r := uM r [Int32.ofNat (ocode o)]) (G := fun x w => x = none ∧ acF c o (dOf c) ∧ ∃ r1, kp 0 68 tXv r r1 ∧ (∀ j, j < dOf c → r1.1 (xP 47 j) = Int32.ofInt (acS c o v (dOf c) j)) ∧ w = tW r1 al cy rest 68 tXv) (allL_ok q_acE s hs) (fun At hFC => ?_)
  · rw [show List.map (sVal (uM r [Int32.ofNat (ocode o)]) al) [.inr (.inr (some (nat_lit 14))), .inr (.inr (some (Nat.add (nat_lit 37) (Nat.mul (nat_lit 2) s)))), .inl (.var (nat_lit 819290)), .inr (.inr (some (nat_lit 47)))] = [.ref (al 14), .ref (al (37 + 2 * s)), .int (Int32.ofNat (ocode o)), .ref (al 47)] by
      simp only [List.map_cons, List.map_nil, sVal]
      rw [show sI (uM r [Int32.ofNat (ocode o)]) (.var (nat_lit 819290)) = Int32.ofNat (ocode o) by rw [sI_v]; exact uM_v 0]
      rfl] at key
    exact key
  have hE0 : ∀ x : sE, sI (uM x [Int32.ofNat (ocode o)]) (.var (nat_lit 819290)) = Int32.ofNat (ocode o) := fun x => by rw [sI_v]; exact uM_v 0
  have loop : ∀ (m k : Nat) (r' : sE), k + (m + 1) = dOf c → kp 0 68 tXv r r' → acF c o k → (∀ j, j < dOf c → r'.1 (xP 47 j) = Int32.ofInt (acS c o v k j)) → At 45 [some (.ref (al 14)), some (.ref (al (37 + 2 * s))), some (.int (Int32.ofNat (ocode o))), some (.ref (al 47)), some (.int (Int32.ofNat k)), (lA5 (dOf c) k).map (sVal r al)] [.int (Int32.ofNat (ocode o)), .int (Int32.ofNat k), .ref (al 14)] (tW r' al cy rest 68 tXv) := by
    intro m
    induction m with
    | zero =>
      intro k r' hkm hk' hF hA
      refine hFC.2 45 48 84 8 _ [.ref (al 14), .int (Int32.ofNat k), .int (Int32.ofNat (ocode o))] [] _ _ ⟨_, _, rfl, rfl⟩ rfl (by decide) rfl (gRecv_x (j := 14) (show 14 < 68 by omega) rfl rfl) (c_stY l (by omega) hc (by omega) (kpX_cC hc hk' hcc) ho) (fun v2 w2 h => ?_)
      obtain ⟨rfl, r2, j1, j0, j2, rfl⟩ := h
      have hk2 := kp_trans hk' j1
      have hk3 : kp 0 68 tXv r (uM r2 [Int32.ofNat (ocode o)]) := kp_trans hk2 (kp_uM (by omega))
      have hF2 : acF c o (k + 1) := fun i hi j hj => by
        rcases Nat.lt_or_ge i k with h | h
        · exact hF i h j hj
        · obtain rfl : i = k := by omega
          exact (j2 j hj).2
      have hA2 : ∀ j, j < dOf c → r2.1 (xP 47 j) = Int32.ofInt (acS c o v k j) := fun j hj => (j0 j (by omega)).trans (hA j hj)
      have hS : ∀ m1 : sM, allL (dOf c) (fun j => isE m1 (nat_lit 47) j (eAc s k j)) = true → ∀ j, j < dOf c → (eOf 0 (uM r2 [Int32.ofNat (ocode o)]) m1).1 (xP 47 j) = Int32.ofInt (acS c o v (k + 1) j) := fun m1 h1 j hj => by
        have h2 := isE_ok (b := 0) (r := uM r2 [Int32.ofNat (ocode o)]) (show j < 4096 by omega) (allL_ok h1 j hj)
        rw [show xP 47 j = 4096 * (0 + 47) + j by unfold xP; omega, h2]
        show (sD _ (.pow (.mul (.var (192512 + j)) (.pow (.mul (.var (4096 * (37 + 2 * s) + k)) (.var (94208 + j))) 2)) 0)).1 = _
        rw [sD_b, sD_b, sD_v, sD_v, sD_v]
        show (uM r2 [Int32.ofNat (ocode o)]).1 (192512 + j) + (uM r2 [Int32.ofNat (ocode o)]).1 (4096 * (37 + 2 * s) + k) * (uM r2 [Int32.ofNat (ocode o)]).1 (94208 + j) = _
        rw [uM_lo (by omega), uM_lo (by omega), uM_lo (by omega), show r2.1 (192512 + j) = _ from (congrArg r2.1 (show 192512 + j = xP 47 j by unfold xP; omega)).trans (hA2 j hj), show r2.1 (4096 * (37 + 2 * s) + k) = _ from (congrArg r2.1 (show 4096 * (37 + 2 * s) + k = xP (37 + 2 * s) k by unfold xP; omega)).trans ((hk2.1 _ (ac_pl s hs k (by omega)).1 (ac_pl s hs k (by omega)).2).trans (hv k (by omega))), show r2.1 (94208 + j) = _ from (congrArg r2.1 (show 94208 + j = xP 23 j by unfold xP; omega)).trans (j2 j hj).1, ← Int32.ofInt_mul, ← Int32.ofInt_add]
        rfl
      have g := g_seg hFC (r := uM r2 [Int32.ofNat (ocode o)]) (al := al) (cy := cy) (rest := rest) (by omega) (tX_ok hc) (kpX_cC hc hk3 hcc) sPa_nil oX_nil (allL_ok hq.2 k (by omega)) (fun m0 pc L st pa m1 hk hp hkp => ?_) (fun m0 x pa m1 hk hp hkp => ?_)
      · rw [hw, LAc_eq, hE0, lA5_eq (y := r)] at g
        exact g
      · rw [Bool.and_eq_true] at hk
        have hle : k + 2 ≤ dOf c := Nat.le_of_ble_eq_true hk.1
        exact absurd hle (by omega)
      · rw [Bool.and_eq_true, Bool.and_eq_true] at hk
        have he : k + 1 = dOf c := Nat.eq_of_beq_eq_true hk.1
        rw [eqO_ok hk.2.1]
        refine ⟨rfl, by rw [← he]; exact hF2, _, kp_trans hk3 hkp, fun j hj => ?_, rfl⟩
        rw [hS m1 hk.2.2 j hj, he]
    | succ m ih =>
      intro k r' hkm hk' hF hA
      refine hFC.2 45 48 84 8 _ [.ref (al 14), .int (Int32.ofNat k), .int (Int32.ofNat (ocode o))] [] _ _ ⟨_, _, rfl, rfl⟩ rfl (by decide) rfl (gRecv_x (j := 14) (show 14 < 68 by omega) rfl rfl) (c_stY l (by omega) hc (by omega) (kpX_cC hc hk' hcc) ho) (fun v2 w2 h => ?_)
      obtain ⟨rfl, r2, j1, j0, j2, rfl⟩ := h
      have hk2 := kp_trans hk' j1
      have hk3 : kp 0 68 tXv r (uM r2 [Int32.ofNat (ocode o)]) := kp_trans hk2 (kp_uM (by omega))
      have hF2 : acF c o (k + 1) := fun i hi j hj => by
        rcases Nat.lt_or_ge i k with h | h
        · exact hF i h j hj
        · obtain rfl : i = k := by omega
          exact (j2 j hj).2
      have hA2 : ∀ j, j < dOf c → r2.1 (xP 47 j) = Int32.ofInt (acS c o v k j) := fun j hj => (j0 j (by omega)).trans (hA j hj)
      have hS : ∀ m1 : sM, allL (dOf c) (fun j => isE m1 (nat_lit 47) j (eAc s k j)) = true → ∀ j, j < dOf c → (eOf 0 (uM r2 [Int32.ofNat (ocode o)]) m1).1 (xP 47 j) = Int32.ofInt (acS c o v (k + 1) j) := fun m1 h1 j hj => by
        have h2 := isE_ok (b := 0) (r := uM r2 [Int32.ofNat (ocode o)]) (show j < 4096 by omega) (allL_ok h1 j hj)
        rw [show xP 47 j = 4096 * (0 + 47) + j by unfold xP; omega, h2]
        show (sD _ (.pow (.mul (.var (192512 + j)) (.pow (.mul (.var (4096 * (37 + 2 * s) + k)) (.var (94208 + j))) 2)) 0)).1 = _
        rw [sD_b, sD_b, sD_v, sD_v, sD_v]
        show (uM r2 [Int32.ofNat (ocode o)]).1 (192512 + j) + (uM r2 [Int32.ofNat (ocode o)]).1 (4096 * (37 + 2 * s) + k) * (uM r2 [Int32.ofNat (ocode o)]).1 (94208 + j) = _
        rw [uM_lo (by omega), uM_lo (by omega), uM_lo (by omega), show r2.1 (192512 + j) = _ from (congrArg r2.1 (show 192512 + j = xP 47 j by unfold xP; omega)).trans (hA2 j hj), show r2.1 (4096 * (37 + 2 * s) + k) = _ from (congrArg r2.1 (show 4096 * (37 + 2 * s) + k = xP (37 + 2 * s) k by unfold xP; omega)).trans ((hk2.1 _ (ac_pl s hs k (by omega)).1 (ac_pl s hs k (by omega)).2).trans (hv k (by omega))), show r2.1 (94208 + j) = _ from (congrArg r2.1 (show 94208 + j = xP 23 j by unfold xP; omega)).trans (j2 j hj).1, ← Int32.ofInt_mul, ← Int32.ofInt_add]
        rfl
      have g := g_seg hFC (r := uM r2 [Int32.ofNat (ocode o)]) (al := al) (cy := cy) (rest := rest) (by omega) (tX_ok hc) (kpX_cC hc hk3 hcc) sPa_nil oX_nil (allL_ok hq.2 k (by omega)) (fun m0 pc L st pa m1 hk hp hkp => ?_) (fun m0 x pa m1 hk hp hkp => ?_)
      · rw [hw, LAc_eq, hE0, lA5_eq (y := r)] at g
        exact g
      · rw [Bool.and_eq_true, Bool.and_eq_true] at hk
        have hle : k + 2 ≤ dOf c := Nat.le_of_ble_eq_true hk.1
        obtain ⟨rfl, rfl, rfl⟩ := kAt_ok hk.2.1
        rw [LAc_eq, hE0, show List.map (sVal (uM r2 [Int32.ofNat (ocode o)]) al) [.inl (.var (nat_lit 819290)), .inl (.natCast (Nat.succ k)), .inr (.inr (some (nat_lit 14)))] = [.int (Int32.ofNat (ocode o)), .int (Int32.ofNat (k + 1)), .ref (al 14)] by simp only [List.map_cons, List.map_nil, sVal, sI_c, hE0]]
        exact ih (k + 1) _ (by omega) (kp_trans hk3 hkp) hF2 (fun j hj => hS m1 hk.2.2 j hj)
      · rw [Bool.and_eq_true, Bool.and_eq_true] at hk
        have he : k + 1 = dOf c := Nat.eq_of_beq_eq_true hk.1
        exact absurd he (by omega)
  have g := g_seg hFC (r := uM r [Int32.ofNat (ocode o)]) (al := al) (cy := cy) (rest := rest) (by omega) (tX_ok hc) (kpX_cC hc (kp_uM (by omega)) hcc) sPa_nil oX_nil hq.1 (fun m0 pc L st pa m hk hp hkp => ?_) (fun m0 x pa m hk => nomatch hk)
  · rw [hw] at g
    exact g
  rw [Bool.and_eq_true] at hk
  obtain ⟨rfl, rfl, rfl⟩ := kAt_ok hk.1
  rw [LAc_eq, hE0, show List.map (sVal (uM r [Int32.ofNat (ocode o)]) al) [.inl (.var (nat_lit 819290)), .inl (.natCast (nat_lit 0)), .inr (.inr (some (nat_lit 14)))] = [.int (Int32.ofNat (ocode o)), .int (Int32.ofNat 0), .ref (al 14)] by simp only [List.map_cons, List.map_nil, sVal, sI_c, hE0]]
  exact loop (dOf c - 1) 0 _ (by omega) (kp_trans (kp_uM (by omega)) hkp) (fun i hi => absurd hi (by omega)) (fun j hj => by
    have := isE_ok (b := 0) (r := uM r [Int32.ofNat (ocode o)]) (show j < 4096 by omega) (allL_ok hk.2 j hj)
    rw [sI_c] at this
    rw [show xP 47 j = 4096 * (0 + 47) + j by unfold xP; omega, this]
    rfl)
end AC
