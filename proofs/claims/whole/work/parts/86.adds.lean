/-! 86: the model: adds, by contract (by wip/whole/mk86.py) -/
theorem sA_uM {r : sE} {l : List Int32} : sameA r (uM r l) := fun u _ h2 => ⟨uM_lo (by omega), rfl⟩
theorem At_env {al : Nat → Nat} {At : gAt} {pc : Nat} {L : sL} {st : List sV} {w : va_W} {r r1 : sE} (h : sameA r r1) (hL : lAll stO L = true) (hs : lAll stV st = true) (hA : At pc (L.map (Option.map (sVal r1 al))) (st.map (sVal r1 al)) w) : At pc (L.map (Option.map (sVal r al))) (st.map (sVal r al)) w := by
  rw [stL_ok h hL, stS_ok h hs] at hA
  exact hA
noncomputable def ch23 (u : Nat) : Bool := Nat.beq (Nat.div u (nat_lit 4096)) (nat_lit 92)
noncomputable def chA (u : Nat) : Bool := memB [nat_lit 89, nat_lit 92] (Nat.div u (nat_lit 4096))
def AF (n : Nat) (col row : Nat → Nat) (q : Int) (r : sE) : Prop := r.1 (mP 0 1) = Int32.ofNat n ∧ r.1 (mP 0 28) = Int32.ofInt q ∧ (∀ p, 1 ≤ p → p ≤ n → r.1 (mP 22 p) = Int32.ofNat (col p) ∧ col p < 5) ∧ ∀ p, 1 ≤ p → p ≤ n → r.1 (mP 21 p) = Int32.ofNat (row p) ∧ row p < 5
def TF (tr : List Nat) (r : sE) : Prop := ∀ k, k < tr.length → r.1 (mP 23 (1 + k)) = Int32.ofNat (tr.getD k 0)
def NF (N : Nat → Int) (r : sE) : Prop := ∀ j, j < 3125 → r.1 (mP 20 j) = Int32.ofInt (N j)
theorem AF_pl : ((isV 69 45 tMv (mP 0 1) = true ∧ chA (mP 0 1) = false) ∧ isV 69 45 tMv (mP 0 28) = true ∧ chA (mP 0 28) = false) ∧ ∀ p, p < 6 → (isV 69 45 tMv (mP 22 p) = true ∧ chA (mP 22 p) = false) ∧ isV 69 45 tMv (mP 21 p) = true ∧ chA (mP 21 p) = false := by decide +kernel
theorem AF_kp {n : Nat} {col row : Nat → Nat} {q : Int} {r r2 : sE} (hn5 : n ≤ 5) (h : kpC chA 69 45 tMv r r2) (hA : AF n col row q r) : AF n col row q r2 := by
  obtain ⟨⟨⟨p1, p2⟩, p3, p4⟩, p5⟩ := AF_pl
  obtain ⟨h1, h2, h3, h4⟩ := hA
  refine ⟨(h.1 _ p1 p2).trans h1, (h.1 _ p3 p4).trans h2, fun p g1 g2 => ?_, fun p g1 g2 => ?_⟩
  · obtain ⟨⟨a, b⟩, -⟩ := p5 p (by omega)
    exact ⟨(h.1 _ a b).trans (h3 p g1 g2).1, (h3 p g1 g2).2⟩
  · obtain ⟨-, a, b⟩ := p5 p (by omega)
    exact ⟨(h.1 _ a b).trans (h4 p g1 g2).1, (h4 p g1 g2).2⟩
theorem allL_mk {f : Nat → Bool} : ∀ {n : Nat}, (∀ j, j < n → f j = true) → allL n f = true
  | 0, _ => rfl
  | n + 1, h => by
    show Bool.and (f n) (allL n f) = true
    rw [Bool.and_eq_true]
    exact ⟨h n (by omega), allL_mk (fun j hj => h j (by omega))⟩
theorem num_V : allL 3125 (fun j => isV (nat_lit 69) (nat_lit 45) tMv (Nat.add (nat_lit 364544) j)) = true := by
  have key : ∀ j, j < 3125 → isV (nat_lit 69) (nat_lit 45) tMv (Nat.add (nat_lit 364544) j) = true := fun j hj => by
    have := isV_mk (b := 69) (n := 45) (t := tMv) (i := 20) (j := j) (by omega) (by omega) (by
      rw [vrL_ok _ _ num_vr j (by rw [num_len]; exact hj)])
    exact this
  exact allL_mk key
/-- but for Ch -/
noncomputable def kS1C (Ch : Nat → Bool) (b n : Nat) (t : Nat → sC) (K : Nat → Bool) (pc1 : Nat) (L1 : sL) (st1 : List sV) (ck : sM → List sK → sM → Bool) (m0 : sM) : sKs := fun pc L st pa m => Bool.and (sKC Ch b n t K m0 m) (Bool.and (kAt pc1 L1 st1 pc L st) (Bool.and (Bool.and (lAll stO L1) (lAll stV st1)) (ck m0 pa m)))
theorem g_seg1C {Ch : Nat → Bool} {l : Launch} {D : va_G} {cy : Nat → ClassId} {al : Nat → Nat} {rest : va_W} {r : sE} {b n fuel d k pc pc1 : Nat} {L L1 : sL} {st st1 : List sV} {t tv : Nat → sC} {K : Nat → Bool} {ovs : List sOv} {pa : List sK} {stop : Nat → Bool} {ck : sM → List sK → sM → Bool} {kr : sM → sKr} {Rt : Option Value → va_W → Prop} {At : gAt} (hFC : gFC l D cy al k d Rt At) (hb : b + n ≤ 200) (ht : tOk b n t tv) (hct : cC b n t r) (hp : sPa r pa) (hov : ∀ q ∈ ovs, r.1 (4096 * (b + q.1) + q.2.1) = sI r q.2.2)
    (h : sBeg b n t K ovs (fun m0 => sx PG fuel d (PG k) stop (kS1C Ch b n t K pc1 L1 st1 ck m0) (fun v pa m => Bool.and (sKC Ch b n t K m0 m) (kr m0 v pa m)) pc L st pa m0) = true)
    (hS : ∀ (m0 : sM) (pa : List sK) (m : sM) (r1 : sE), ck m0 pa m = true → sPa r pa → r1 = eOf b r m → kpC Ch b n tv r r1 → At pc1 (L1.map (Option.map (sVal r1 al))) (st1.map (sVal r1 al)) (tW r1 al cy rest n tv))
    (hR : ∀ (m0 : sM) (v : Option sV) (pa : List sK) (m : sM) (r1 : sE), kr m0 v pa m = true → sPa r pa → r1 = eOf b r m → kpC Ch b n tv r r1 → Rt (v.map (sVal r al)) (tW r1 al cy rest n tv)) : At pc (L.map (Option.map (sVal r al))) (st.map (sVal r al)) (tW r al cy rest n tv) := by
  refine g_segC (Ch := Ch) hFC hb ht hct hp hov (ks := fun m0 pc L st pa m => Bool.and (kAt pc1 L1 st1 pc L st) (Bool.and (Bool.and (lAll stO L1) (lAll stV st1)) (ck m0 pa m))) h (fun m0 pc L st pa m hk hp hkp => ?_) (fun m0 v pa m hk hp hkp => hR m0 v pa m _ hk hp rfl hkp)
  rw [Bool.and_eq_true, Bool.and_eq_true, Bool.and_eq_true] at hk
  obtain ⟨k1, ⟨k2, k3⟩, k4⟩ := hk
  obtain ⟨rfl, rfl, rfl⟩ := kAt_ok k1
  rw [← stL_ok hkp.2.2 k2, ← stS_ok hkp.2.2 k3]
  exact hS m0 pa m _ k4 hp rfl hkp
-- the runs
noncomputable def LA0 (i : Nat) : sL := [some (.inr (.inr (some (nat_lit 0)))), some (.inl (.natCast i)), none, none, none]
noncomputable def LAB (n : Nat) : sL := [some (.inr (.inr (some (nat_lit 0)))), some (.inl (.natCast (Nat.succ (Nat.succ n)))), some (.inl (.natCast (nat_lit 6))), none, none]
noncomputable def LA (i v : Nat) : sL := some (.inr (.inr (some (nat_lit 0)))) :: some (.inl (.natCast i)) :: some (.inl (.natCast v)) :: Nat.rec (motive := fun _ => sL) [none, none] (fun k _ => Nat.rec (motive := fun _ => sL) [none, none] (fun _ _ => [some (.inl (.var (nat_lit 819290))), some (.inl (.var (nat_lit 819291)))]) k) v
noncomputable def LAs (i v s : Nat) : sL := [some (.inr (.inr (some (nat_lit 0)))), some (.inl (.natCast i)), some (.inl (.natCast v)), some (.inl (.natCast s)), some (.inl (.natCast i))]
theorem q_aE0 : allL 7 (fun i => sEnt [.inr (.inr (some (nat_lit 0))), .inl (.natCast i)] (PG (nat_lit 172)).2.1 (fun L => eqL eqO L (LA0 i))) = true := by decide +kernel
theorem q_aB1 : allL 5 (fun n => sBeg (nat_lit 69) (nat_lit 45) tMv (memB [nat_lit 0, nat_lit 23]) [(nat_lit 0, nat_lit 1, .natCast (Nat.succ n))] (fun m0 => sx PG (nat_lit 1000) (nat_lit 10) (PG (nat_lit 172)) (fun pc => Nat.beq pc (nat_lit 38)) (kS1C ch23 (nat_lit 69) (nat_lit 45) tMv (memB [nat_lit 0, nat_lit 23]) (nat_lit 38) (LAB n) [.inr (.inr (some (nat_lit 0))), .inr (.inr (some (nat_lit 20)))] (fun _ _ m => allL 5 (fun k => isE m (nat_lit 23) (Nat.succ k) (Bool.rec (motive := fun _ => sX) (.natCast (Nat.succ k)) (.var (Nat.add (nat_lit 376833) k)) (Nat.ble k n)))) m0) (fun _ _ m => Bool.and (sKC ch23 (nat_lit 69) (nat_lit 45) tMv (memB [nat_lit 0, nat_lit 23]) m0 m) false) (nat_lit 0) (LA0 (Nat.succ (Nat.succ n))) [] [] m0)) = true := by decide +kernel
theorem q_a41 : allL 5 (fun n => sx PG (nat_lit 10) (nat_lit 10) (PG (nat_lit 172)) (fun pc => Nat.beq pc (nat_lit 42)) (fun pc L st _ m => Bool.and (eqL eqC m []) (kAt (nat_lit 42) (LAB n) [.inl (.var (nat_lit 819290)), .inr (.inr (some (nat_lit 20))), .inl (.var (nat_lit 819290)), .inr (.inr (some (nat_lit 20)))] pc L st)) (fun _ _ m => Bool.and (eqL eqC m []) false) (nat_lit 41) (LAB n) [.inl (.var (nat_lit 819290)), .inr (.inr (some (nat_lit 20)))] [] []) = true := by decide +kernel
theorem q_a43 : allL 5 (fun n => sBeg (nat_lit 69) (nat_lit 45) tMv (memB [nat_lit 0]) [] (fun m0 => sx PG (nat_lit 100) (nat_lit 10) (PG (nat_lit 172)) (fun pc => Nat.beq pc (nat_lit 54)) (fun pc L st pa m => Bool.and (eqL eqC m m0) (kAt (nat_lit 54) (LAB n) [.inr (.inr (some (nat_lit 23))), .inr (.inr (some (nat_lit 0))), .inl (.natCast (nat_lit 2)), .inl (.natCast (nat_lit 1)), .inl (.var (nat_lit 282652)), .inl (.var (nat_lit 819291)), .inl (.var (nat_lit 819290)), .inr (.inr (some (nat_lit 20)))] pc L st)) (fun _ _ m => Bool.and (eqL eqC m m0) false) (nat_lit 43) (LAB n) [.inl (.var (nat_lit 819291)), .inl (.var (nat_lit 819290)), .inr (.inr (some (nat_lit 20)))] [] m0)) = true := by decide +kernel
noncomputable def sgN (len : Nat) : Nat := Nat.rec (motive := fun _ => Nat) (nat_lit 1) (fun _ _ => nat_lit 4294967295) (Nat.mod len (nat_lit 2))
noncomputable def eAd (len : Nat) : sX := .pow (.mul (.var (nat_lit 819291)) (.pow (.mul (.var (nat_lit 282652)) (.natCast (sgN len))) (nat_lit 2))) (nat_lit 0)
theorem q_a57 : allL 5 (fun n => allL 11 (fun z => sx PG (nat_lit 100) (nat_lit 10) (PG (nat_lit 172)) (fun pc => Nat.beq pc (nat_lit 63)) (fun pc L st _ m => Bool.and (eqL eqC m []) (kAt (nat_lit 63) (LAB n) [.inl (eAd z), .inl (.var (nat_lit 819290)), .inr (.inr (some (nat_lit 20)))] pc L st)) (fun _ _ m => Bool.and (eqL eqC m []) false) (nat_lit 57) (LAB n) [.inl (.natCast z), .inl (.natCast (nat_lit 2)), .inl (.natCast (nat_lit 1)), .inl (.var (nat_lit 282652)), .inl (.var (nat_lit 819291)), .inl (.var (nat_lit 819290)), .inr (.inr (some (nat_lit 20)))] [] [])) = true := by decide +kernel
theorem q_a64 : allL 5 (fun n => sx PG (nat_lit 100) (nat_lit 10) (PG (nat_lit 172)) (fun _ => false) (fun _ _ _ _ _ => false) (fun v _ m => Bool.and (eqL eqC m []) (eqO v none)) (nat_lit 64) (LAB n) [] [] []) = true := by decide +kernel
theorem q_aH : allL 5 (fun i => allL (Nat.sub (nat_lit 5) i) (fun m => sBeg (nat_lit 69) (nat_lit 45) tMv (memB [nat_lit 0]) [(nat_lit 0, nat_lit 1, .natCast (Nat.succ (Nat.add i m)))] (fun m0 => sx PG (nat_lit 100) (Nat.succ (Nat.add (nat_lit 10) m)) (PG (nat_lit 172)) (fun pc => Nat.beq pc (nat_lit 67)) (fun pc L st pa m => Bool.and (eqL eqC m m0) (kAt (nat_lit 67) (LA (Nat.succ i) (nat_lit 1)) [] pc L st)) (fun _ _ m => Bool.and (eqL eqC m m0) false) (nat_lit 0) (LA0 (Nat.succ i)) [] [] m0))) = true := by decide +kernel
theorem q_a67 : allL 5 (fun m => allL 6 (fun i => allL 7 (fun v => sx PG (nat_lit 10) (Nat.succ (Nat.add (nat_lit 10) m)) (PG (nat_lit 172)) (fun pc => Nat.beq pc (nat_lit 68)) (fun pc L st _ m => Bool.and (eqL eqC m []) (kAt (nat_lit 68) (LA i v) [.inl (.natCast v)] pc L st)) (fun _ _ m => Bool.and (eqL eqC m []) false) (nat_lit 67) (LA i v) [] [] []))) = true := by decide +kernel
theorem q_aE : allL 5 (fun i => allL (Nat.sub (nat_lit 5) i) (fun m => sBeg (nat_lit 69) (nat_lit 45) tMv (memB [nat_lit 0]) [(nat_lit 0, nat_lit 1, .natCast (Nat.succ (Nat.add i m)))] (fun m0 => sx PG (nat_lit 100) (Nat.succ (Nat.add (nat_lit 10) m)) (PG (nat_lit 172)) (fun _ => false) (fun _ _ _ _ m => Bool.and (eqL eqC m m0) false) (fun v _ m => Bool.and (eqL eqC m m0) (eqO v none)) (nat_lit 68) (LA (Nat.succ i) (Nat.succ (Nat.succ (Nat.add i m)))) [.inl (.natCast (Nat.succ (Nat.succ (Nat.add i m))))] [] m0))) = true := by decide +kernel
noncomputable def cvE (v : Nat) : sX := .var (Nat.add (nat_lit 372736) v)
noncomputable def tvE (k : Nat) : sX := .var (Nat.add (nat_lit 376833) k)
noncomputable def chT (i u : Nat) : Bool := Nat.beq u (Nat.add (nat_lit 376832) i)
noncomputable def cdA (i v : Nat) (pa : List sK) : Bool := Bool.and (Bool.or (Nat.beq v i) (paY (cvE (Nat.succ v)) (cvE (Nat.succ i)) pa)) (allL i (fun k => paN (tvE k) (.natCast (Nat.succ v)) pa))
noncomputable def cdB (i v : Nat) (pa : List sK) : Bool := Bool.or (paN (cvE (Nat.succ v)) (cvE (Nat.succ i)) pa) (Bool.not (allL i (fun k => Bool.not (paY (tvE k) (.natCast (Nat.succ v)) pa))))
noncomputable def aVr (m i v : Nat) : Bool := sBeg (nat_lit 69) (nat_lit 45) tMv (memB [nat_lit 0, nat_lit 22, nat_lit 23]) [(nat_lit 0, nat_lit 1, .natCast (Nat.succ (Nat.add i m)))] (fun m0 => sx PG (nat_lit 1000) (Nat.succ (Nat.add (nat_lit 10) m)) (PG (nat_lit 172)) (fun pc => Bool.or (Nat.beq pc (nat_lit 145)) (Nat.beq pc (nat_lit 67))) (fun pc L st pa m => Bool.and (sKC (chT (Nat.succ i)) (nat_lit 69) (nat_lit 45) tMv (memB [nat_lit 0, nat_lit 22, nat_lit 23]) m0 m) (Bool.or (Bool.and (kAt (nat_lit 145) (LAs (Nat.succ i) (Nat.succ v) (nat_lit 1)) [.inl (.natCast (Nat.succ (Nat.succ i))), .inr (.inr (some (nat_lit 0)))] pc L st) (Bool.and (cdA i v pa) (isE m (nat_lit 23) (Nat.succ i) (.natCast (Nat.succ v))))) (Bool.and (kAt (nat_lit 67) (LAs (Nat.succ i) (Nat.succ (Nat.succ v)) (nat_lit 0)) [] pc L st) (Bool.and (cdB i v pa) (eqL eqC m m0))))) (fun _ _ m => Bool.and (sKC (chT (Nat.succ i)) (nat_lit 69) (nat_lit 45) tMv (memB [nat_lit 0, nat_lit 22, nat_lit 23]) m0 m) false) (nat_lit 68) (LA (Nat.succ i) (Nat.succ v)) [.inl (.natCast (Nat.succ v))] [] m0)
theorem q_aV3 : allL 4 (fun i => allL (Nat.sub (nat_lit 4) i) (fun m => allL (Nat.succ (Nat.add i m)) (fun v => aVr m i v))) = true := by decide +kernel
theorem q_aV5 : allL 5 (fun i => allL 5 (fun v => aVr (Nat.sub (nat_lit 4) i) i v)) = true := by decide +kernel
theorem q_aV {m i v : Nat} (hn : i + m < 5) (hv : v < i + m + 1) : aVr m i v = true := by
  by_cases h : i + m < 4
  · exact allL_ok (allL_ok (allL_ok q_aV3 i (by omega)) m (by show m < 4 - i; omega)) v hv
  · have := allL_ok (allL_ok q_aV5 i (by omega)) v (by omega)
    rwa [show Nat.sub (nat_lit 4) i = m by show 4 - i = m; omega] at this
theorem q_a148 : allL 5 (fun m => allL 6 (fun i => allL 6 (fun v => sx PG (nat_lit 10) (Nat.succ (Nat.add (nat_lit 10) m)) (PG (nat_lit 172)) (fun pc => Nat.beq pc (nat_lit 67)) (fun pc L st _ m => Bool.and (eqL eqC m []) (kAt (nat_lit 67) (LAs i (Nat.succ v) (nat_lit 1)) [] pc L st)) (fun _ _ m => Bool.and (eqL eqC m []) false) (nat_lit 148) (LAs i v (nat_lit 1)) [] [] []))) = true := by decide +kernel
