/-! 97: acts: the model, the class (by wip/whole/mk97.py) -/
/-- a segment of a frame: what stands as the memory says -/
theorem g_segF {l : Launch} {D : va_G} {cy : Nat → ClassId} {al : Nat → Nat} {rest : va_W} {r : sE} {b n fuel d k pc : Nat} {L : sL} {st : List sV} {t tv : Nat → sC} {K : Nat → Bool} {ovs : List sOv} {pa : List sK} {stop : Nat → Bool} {ks : sM → sKs} {kr : sM → sKr} {Rt : Option Value → va_W → Prop} {At : gAt} (hFC : gFC l D cy al k d Rt At) (hb : b + n ≤ 200) (ht : tOk b n t tv) (hct : cC b n t r) (hp : sPa r pa) (hov : ∀ q ∈ ovs, r.1 (4096 * (b + q.1) + q.2.1) = sI r q.2.2)
    (h : sBeg b n t K ovs (fun m0 => sx PG fuel d (PG k) stop (fun pc L st pa m => Bool.and (fitM b n t K m) (ks m0 pc L st pa m)) (fun v pa m => Bool.and (fitM b n t K m) (kr m0 v pa m)) pc L st pa m0) = true)
    (hS : ∀ (m0 : sM) (pc : Nat) (L : sL) (st : List sV) (pa : List sK) (m : sM), ks m0 pc L st pa m = true → sPa r pa → (∀ Ch, frM b Ch m0 0 m = true → kpC Ch b n tv r (eOf b r m)) → At pc (L.map (Option.map (sVal r al))) (st.map (sVal r al)) (tW (eOf b r m) al cy rest n tv))
    (hR : ∀ (m0 : sM) (v : Option sV) (pa : List sK) (m : sM), kr m0 v pa m = true → sPa r pa → (∀ Ch, frM b Ch m0 0 m = true → kpC Ch b n tv r (eOf b r m)) → Rt (v.map (sVal r al)) (tW (eOf b r m) al cy rest n tv)) : At pc (L.map (Option.map (sVal r al))) (st.map (sVal r al)) (tW r al cy rest n tv) := by
  unfold sBeg at h
  rw [Bool.and_eq_true] at h
  have hP := ovP_ovr (b := b) (ovP_msk (r := r) (al := al) (n := n) (t := t) (K := K)) ovs h.1 hov
  have hw := ovP_w (cy := cy) (rest := rest) (fun i hi => (ht i hi).1.1) hP
  rw [← cC_w (fun i hi => (ht i hi).2) hct, ← hw]
  have back : ∀ m : sM, fitM b n t K m = true → sW r al cy (mHid r al cy t) rest m = tW (eOf b r m) al cy rest n tv ∧ ∀ Ch, frM b Ch (ovr ovs (msk n t K)) 0 m = true → kpC Ch b n tv r (eOf b r m) := fun m h1 => by
    rw [fit_w h1 (fun i hi hK => ⟨rfl, (ht i hi).1.2⟩), cC_w (fun i hi => (ht i hi).2) (cC_fit h1 (fun _ _ _ => rfl) hct (fun i hi => (ht i hi).1))]
    exact ⟨rfl, fun Ch h => kpC_run hb ht hct hP h1 h⟩
  refine hFC.1 r _ rest _ _ _ _ pc L st pa _ h.2 hp (fun pc L st pa m hk hp => ?_) (fun v pa m hk hp => ?_)
  · rw [Bool.and_eq_true] at hk
    obtain ⟨g1, g2⟩ := back m hk.1
    rw [g1]
    exact hS _ pc L st pa m hk.2 hp g2
  · rw [Bool.and_eq_true] at hk
    obtain ⟨g1, g2⟩ := back m hk.1
    rw [g1]
    exact hR _ v pa m hk.2 hp g2
-- the model's long row: cell 20
noncomputable def isLE (mem : sM) (i j : Nat) (e : sX) : Bool := sGet mem i (fun c => Bool.and (Nat.ble c.1 (nat_lit 6)) (sGet c.2.2 j (fun v => eqV v (.inr (.inl e)))))
theorem isLE_ok {b : Nat} {r : sE} {mem : sM} {i j : Nat} {e : sX} (hj : j < 4096) (h : isLE mem i j e = true) : (eOf b r mem).2 (4096 * (b + i) + j) = sJ r e := by
  obtain ⟨⟨kd, u, vs⟩, h1, h2⟩ := sGet_ok _ _ _ h
  rw [Bool.and_eq_true] at h2
  obtain ⟨v, h3, h4⟩ := sGet_ok _ _ _ h2.2
  rw [(eOf_i (b := b) (r := r) h1 (Nat.le_of_ble_eq_true h2.1) hj).2, h3, eqV_ok h4]
  rfl
noncomputable def rgP (p d u : Nat) : Bool := Bool.and (Nat.ble p u) (Nat.ble (Nat.succ u) (Nat.add p d))
/-- what acts may change -/
noncomputable def chAc (s d u : Nat) : Bool := Bool.or (scQ u) (Bool.or (rgP (Nat.mul (nat_lit 4096) (Nat.add (nat_lit 37) (Nat.mul (nat_lit 2) s))) d u) (rgP (Nat.add (nat_lit 319488) (Nat.mul (nat_lit 20) s)) d u))
def acO (c : Nat) (o : List Nat) (v : Nat → Int) (s b n : Nat) (tv : Nat → sC) (pN : Nat) (r : sE) (x : Option Value) (r1 : sE) : Prop := (x = some (.int (Int32.ofNat 1)) ∧ (∀ j, j < dOf c → -999 ≤ acS c o v (dOf c) j ∧ acS c o v (dOf c) j ≤ 999) ∧ kpC (chAc s (dOf c)) b n tv r r1 ∧ ∀ j, j < dOf c → r1.1 (pN + j) = Int32.ofInt (acS c o v (dOf c) j)) ∨ (x = some (.int (Int32.ofNat 4294967291)) ∧ (∃ j, j < dOf c ∧ (acS c o v (dOf c) j < -999 ∨ 999 < acS c o v (dOf c) j)) ∧ kp b n tv r r1)
noncomputable def LMa (s : Nat) (x y z : Option sV) : sL := [some (.inr (.inr (some (nat_lit 0)))), some (.inl (.natCast s)), x, y, z]
noncomputable def eAm (s k j : Nat) : sX := .pow (.mul (.var (Nat.add (nat_lit 413696) j)) (.pow (.mul (.pow (.neg (.var (Nat.add (Nat.add (nat_lit 319488) (Nat.mul (nat_lit 20) s)) k))) (nat_lit 21)) (.pow (.neg (.var (Nat.add (nat_lit 380928) j))) (nat_lit 21))) (nat_lit 22))) (nat_lit 20)
noncomputable def cmE (j lo : Nat) : sX := .pow (.mul (.var (Nat.add (nat_lit 413696) j)) (.natCast lo)) (nat_lit 10)
noncomputable def inL (pa : List sK) (j : Nat) : Bool := Bool.and (sAsk false (cmE j (nat_lit 18446744073709550617)) (.natCast (nat_lit 0)) false true false pa) (sAsk false (.natCast (nat_lit 0)) (cmE j (nat_lit 999)) false true false pa)
noncomputable def ouL (pa : List sK) (j : Nat) : Bool := Bool.or (sAsk false (cmE j (nat_lit 18446744073709550617)) (.natCast (nat_lit 0)) true false false pa) (sAsk false (.natCast (nat_lit 0)) (cmE j (nat_lit 999)) true false false pa)
noncomputable def am0 (c s q : Nat) : Bool := sBeg (nat_lit 69) (nat_lit 45) (tM c) (memB [(nat_lit 0), (nat_lit 6), (nat_lit 7), (nat_lit 13), (nat_lit 32)]) [((nat_lit 7), s, .natCast (nat_lit 1))] (fun m0 => sx PG (nat_lit 1000) (nat_lit 20) (PG (nat_lit 204)) (fun pc => Nat.beq pc (nat_lit 85)) (fun pc L st pa m => Bool.and (sK0 (nat_lit 69) (nat_lit 45) (tM c) (memB [(nat_lit 0), (nat_lit 6), (nat_lit 7), (nat_lit 13), (nat_lit 32)]) m0 m) (Bool.and (kAt (nat_lit 85) (LMa s (some (.inl (.natCast q))) (some (.inl (.natCast (nat_lit 0)))) none) [.inl (.natCast (nat_lit 0)), .inr (.inr (some (nat_lit 13))), .inr (.inr (some (nat_lit 0)))] pc L st) (Bool.and (isReg q m) (allL (nat_lit 6) (fun j => isJ m (nat_lit 32) j (nat_lit 0)))))) (fun _ _ m => Bool.and (sK0 (nat_lit 69) (nat_lit 45) (tM c) (memB [(nat_lit 0), (nat_lit 6), (nat_lit 7), (nat_lit 13), (nat_lit 32)]) m0 m) false) (nat_lit 0) (LMa s (some (.inl (.natCast q))) none none) [] [] m0)
theorem q_amE : allL 4 (fun s => allL 4 (fun q => sEnt [.inr (.inr (some (nat_lit 0))), .inl (.natCast s), .inl (.natCast q)] (PG (nat_lit 204)).2.1 (fun L => eqL eqO L (LMa s (some (.inl (.natCast q))) none none)))) = true := by decide +kernel
theorem q_am0 : allL 18 (fun c => allL 4 (fun s => allL 4 (fun q => am0 c s q))) = true := by decide +kernel
noncomputable def am1 (c s k : Nat) : Bool := sBeg (nat_lit 69) (nat_lit 45) (tM c) (memB [(nat_lit 0), (nat_lit 9), (nat_lit 24), (nat_lit 32)]) [] (fun m0 => sx PG (nat_lit 1000) (nat_lit 20) (PG (nat_lit 204)) (fun pc => Bool.or (Nat.beq pc (nat_lit 85)) (Nat.beq pc (nat_lit 148))) (fun pc L st pa m => Bool.and (sK0 (nat_lit 69) (nat_lit 45) (tM c) (memB [(nat_lit 0), (nat_lit 9), (nat_lit 24), (nat_lit 32)]) m0 m) (Bool.and (Bool.or (Bool.and (Nat.ble (Nat.succ (Nat.succ k)) (dOf c)) (kAt (nat_lit 85) (LMa s (some (.inl (.var (nat_lit 819290)))) (some (.inl (.natCast (Nat.succ k)))) (some (.inl (.natCast (dOf c))))) [.inl (.natCast (Nat.succ k)), .inr (.inr (some (nat_lit 13))), .inr (.inr (some (nat_lit 0)))] pc L st)) (Bool.and (Nat.beq (Nat.succ k) (dOf c)) (kAt (nat_lit 148) (LMa s (some (.inl (.var (nat_lit 819290)))) (some (.inl (.natCast (nat_lit 1)))) (some (.inl (.natCast (nat_lit 0))))) [] pc L st))) (allL (dOf c) (fun j => isLE m (nat_lit 32) j (eAm s k j))))) (fun _ _ m => Bool.and (sK0 (nat_lit 69) (nat_lit 45) (tM c) (memB [(nat_lit 0), (nat_lit 9), (nat_lit 24), (nat_lit 32)]) m0 m) false) (nat_lit 88) (LMa s (some (.inl (.var (nat_lit 819290)))) (some (.inl (.natCast k))) (lA5 (dOf c) k)) [] [] m0)
theorem q_am1 : allL 18 (fun c => allL 4 (fun s => allL (dOf c) (fun k => am1 c s k))) = true := by decide +kernel
noncomputable def amC (c s : Nat) : Bool := sBeg (nat_lit 69) (nat_lit 45) (tM c) (memB [(nat_lit 0), (nat_lit 9), (nat_lit 32)]) [] (fun m0 => sx PG (nat_lit 2000) (nat_lit 20) (PG (nat_lit 204)) (fun _ => false) (fun _ _ _ _ m => Bool.and (fitM (nat_lit 69) (nat_lit 45) (tM c) (memB [(nat_lit 0), (nat_lit 9), (nat_lit 32)]) m) false) (fun v pa m => Bool.and (fitM (nat_lit 69) (nat_lit 45) (tM c) (memB [(nat_lit 0), (nat_lit 9), (nat_lit 32)]) m) (Bool.or (Bool.and (eqO v (some (.inl (.natCast (nat_lit 1))))) (Bool.and (frM (nat_lit 69) (chAc s (dOf c)) m0 (nat_lit 0) m) (Bool.and (allL (dOf c) (inL pa)) (allL (dOf c) (fun j => isE m (nat_lit 9) (Nat.add (Nat.mul (nat_lit 20) s) j) (.pow (.neg (.var (Nat.add (nat_lit 413696) j))) (nat_lit 4))))))) (Bool.and (eqO v (some (.inl (.natCast (nat_lit 4294967291))))) (Bool.and (frM (nat_lit 69) scQ m0 (nat_lit 0) m) (anyN (dOf c) (ouL pa)))))) (nat_lit 148) (LMa s (some (.inl (.var (nat_lit 819290)))) (some (.inl (.natCast (nat_lit 1)))) (some (.inl (.natCast (nat_lit 0))))) [] [] m0)
theorem q_amC_a : allL 11 (fun c => allL 4 (fun s => amC c s)) = true := by decide +kernel
theorem q_amC_b : allL 3 (fun c => allL 4 (fun s => amC (Nat.add (nat_lit 11) c) s)) = true := by decide +kernel
theorem q_amC_c0 : allL 2 (fun s => amC (nat_lit 14) s) = true := by decide +kernel
theorem q_amC_c1 : allL 2 (fun s => amC (nat_lit 14) (Nat.add (nat_lit 2) s)) = true := by decide +kernel
theorem q_amC_d : allL 3 (fun c => allL 4 (fun s => amC (Nat.add (nat_lit 15) c) s)) = true := by decide +kernel
theorem q_amC {c s : Nat} (hc : c < 18) (hs : s < 4) : amC c s = true := by
  by_cases h1 : c < 11
  · exact allL_ok (allL_ok q_amC_a c h1) s hs
  by_cases h2 : c < 14
  · obtain ⟨e, rfl⟩ : ∃ e, c = 11 + e := ⟨c - 11, by omega⟩
    exact allL_ok (allL_ok q_amC_b e (by omega)) s hs
  by_cases h3 : c < 15
  · obtain rfl : c = 14 := by omega
    by_cases h4 : s < 2
    · exact allL_ok q_amC_c0 s h4
    · obtain ⟨e, rfl⟩ : ∃ e, s = 2 + e := ⟨s - 2, by omega⟩
      exact allL_ok q_amC_c1 e (by omega)
  · obtain ⟨e, rfl⟩ : ∃ e, c = 15 + e := ⟨c - 15, by omega⟩
    exact allL_ok (allL_ok q_amC_d e (by omega)) s hs
-- the class, around
noncomputable def LXa (s : Nat) (x y z : Option sV) : sL := [some (.inr (.inr (some (nat_lit 0)))), some (.inl (.natCast s)), x, y, z, none]
noncomputable def ax0 (s q : Nat) : Bool := sBeg (nat_lit 0) (nat_lit 68) tXv (memB [(nat_lit 0), (nat_lit 1), (nat_lit 34), (nat_lit 35), Nat.add (nat_lit 36) (Nat.mul (nat_lit 2) s)]) [(Nat.add (nat_lit 36) (Nat.mul (nat_lit 2) s), (nat_lit 0), .natCast (nat_lit 1))] (fun m0 => sx PG (nat_lit 1000) (nat_lit 20) (PG (nat_lit 110)) (fun pc => Nat.beq pc (nat_lit 56)) (fun pc L st pa m => Bool.and (eqL eqC m m0) (kAt (nat_lit 56) (LXa s (some (.inl (.natCast q))) (some (.inl (.natCast (nat_lit 0)))) (some (.inr (.inr (some (Nat.add (nat_lit 37) (Nat.mul (nat_lit 2) s))))))) [.inr (.inr (some (nat_lit 47))), .inl (.var (Nat.add (nat_lit 139264) q)), .inr (.inr (some (Nat.add (nat_lit 37) (Nat.mul (nat_lit 2) s)))), .inr (.inr (some (nat_lit 14)))] pc L st)) (fun _ _ m => Bool.and (eqL eqC m m0) false) (nat_lit 0) (LXa s (some (.inl (.natCast q))) none none) [] [] m0)
theorem q_ax0 : allL 4 (fun s => allL 4 (fun q => Bool.and (ax0 s q) (sEnt [.inr (.inr (some (nat_lit 0))), .inl (.natCast s), .inl (.natCast q)] (PG (nat_lit 110)).2.1 (fun L => eqL eqO L (LXa s (some (.inl (.natCast q))) none none))))) = true := by decide +kernel
noncomputable def ouI (pa : List sK) (e : sX) : Bool := Bool.or (sAsk false e (.natCast (nat_lit 4294966297)) true false false pa) (sAsk false (.natCast (nat_lit 999)) e true false false pa)
noncomputable def ax1 (c s : Nat) : Bool := sBeg (nat_lit 0) (nat_lit 68) (tX c) (memB [(nat_lit 0), (nat_lit 1), (nat_lit 47), Nat.add (nat_lit 37) (Nat.mul (nat_lit 2) s)]) [] (fun m0 => sx PG (nat_lit 2000) (nat_lit 20) (PG (nat_lit 110)) (fun _ => false) (fun _ _ _ _ m => Bool.and (fitM (nat_lit 0) (nat_lit 68) (tX c) (memB [(nat_lit 0), (nat_lit 1), (nat_lit 47), Nat.add (nat_lit 37) (Nat.mul (nat_lit 2) s)]) m) false) (fun v pa m => Bool.and (fitM (nat_lit 0) (nat_lit 68) (tX c) (memB [(nat_lit 0), (nat_lit 1), (nat_lit 47), Nat.add (nat_lit 37) (Nat.mul (nat_lit 2) s)]) m) (Bool.or (Bool.and (eqO v (some (.inl (.natCast (nat_lit 1))))) (Bool.and (frM (nat_lit 0) (chAc s (dOf c)) m0 (nat_lit 0) m) (Bool.and (allL (dOf c) (fun j => bE pa (.var (Nat.add (nat_lit 192512) j)))) (allL (dOf c) (fun j => isE m (Nat.add (nat_lit 37) (Nat.mul (nat_lit 2) s)) j (.var (Nat.add (nat_lit 192512) j))))))) (Bool.and (eqO v (some (.inl (.natCast (nat_lit 4294967291))))) (Bool.and (frM (nat_lit 0) scQ m0 (nat_lit 0) m) (anyN (dOf c) (fun j => ouI pa (.var (Nat.add (nat_lit 192512) j)))))))) (nat_lit 59) (LXa s (some (.inl (.var (nat_lit 819290)))) (some (.inl (.natCast (nat_lit 0)))) (some (.inr (.inr (some (Nat.add (nat_lit 37) (Nat.mul (nat_lit 2) s))))))) [] [] m0)
theorem q_ax1 : allL 18 (fun c => allL 4 (fun s => ax1 c s)) = true := by decide +kernel
