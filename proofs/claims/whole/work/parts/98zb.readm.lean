/-! 98zb: read: a cycle, model (by wip/whole/mk98zb.py) -/
theorem q_cyE : sEnt [.inr (.inr (some (nat_lit 0)))] (PG (nat_lit 217)).2.1 (fun L => eqL eqO L [some (.inr (.inr (some (nat_lit 0)))), none, none, none, none]) = true := by decide +kernel
theorem q_cy0 : sBeg (nat_lit 69) (nat_lit 45) tMv (memB [(nat_lit 0), (nat_lit 16), (nat_lit 39)]) [] (fun m0 => sx PG (nat_lit 2000) (nat_lit 6) (PG (nat_lit 217)) (fun pc => memB [(nat_lit 37)] pc) (fun pc L st _ m => Bool.and (sKC (cRg [((nat_lit 442369), (nat_lit 442373)), ((nat_lit 348161), (nat_lit 348165))]) (nat_lit 69) (nat_lit 45) tMv (memB [(nat_lit 0), (nat_lit 16), (nat_lit 39)]) m0 m) (Bool.and (kAt (nat_lit 37) [some (.inr (.inr (some (nat_lit 0)))), some (.inl (.natCast (nat_lit 0))), some (.inl (.natCast (nat_lit 0))), some (.inl (.natCast (nat_lit 0))), some (.inl (.natCast (nat_lit 6)))] [] pc L st) (allL 5 (fun i => Bool.and (isE m (nat_lit 39) (Nat.succ i) (.natCast (Nat.succ i))) (isE m (nat_lit 16) (Nat.succ i) (.natCast (nat_lit 0))))))) (fun v _ m => Bool.and (sKC (cRg [((nat_lit 442369), (nat_lit 442373)), ((nat_lit 348161), (nat_lit 348165))]) (nat_lit 69) (nat_lit 45) tMv (memB [(nat_lit 0), (nat_lit 16), (nat_lit 39)]) m0 m) false) (nat_lit 0) [some (.inr (.inr (some (nat_lit 0)))), none, none, none, none] [] [] m0) = true := by decide +kernel
noncomputable def LCy : sL := [some (.inr (.inr (some (nat_lit 0)))), some (.inl (.var (nat_lit 819290))), some (.inl (.var (nat_lit 819291))), some (.inl (.var (nat_lit 819292))), none]
theorem q_cyA : sx PG (nat_lit 30) (nat_lit 6) (PG (nat_lit 217)) (fun pc => Nat.beq pc (nat_lit 38)) (fun pc L st _ m => Bool.and (eqL eqC m []) (kAt (nat_lit 38) LCy [.inr (.inr (some (nat_lit 0)))] pc L st)) (fun _ _ m => Bool.and (eqL eqC m []) false) (nat_lit 37) LCy [] [] [] = true := by decide +kernel
theorem q_cyB : sx PG (nat_lit 30) (nat_lit 6) (PG (nat_lit 217)) (fun pc => Nat.beq pc (nat_lit 45)) (fun pc L st _ m => Bool.and (eqL eqC m []) (kAt (nat_lit 45) LCy [.inr (.inr (some (nat_lit 0)))] pc L st)) (fun _ _ m => Bool.and (eqL eqC m []) false) (nat_lit 41) LCy [.inl (.natCast (nat_lit 1))] [] [] = true := by decide +kernel
noncomputable def LCk (e : Nat) : sL := [some (.inr (.inr (some (nat_lit 0)))), some (.inl (.var (nat_lit 819290))), some (.inl (.natCast e)), some (.inl (.var (nat_lit 819291))), none]
noncomputable def fstE (z : Bool) (v : Nat) : sX := Bool.rec (motive := fun _ => sX) (.var (nat_lit 819290)) (.natCast v) z
noncomputable def LCx (e v : Nat) : sL := [some (.inr (.inr (some (nat_lit 0)))), some (.inl (.var (nat_lit 819290))), some (.inl (.natCast e)), some (.inl (.var (nat_lit 819291))), some (.inl (.natCast (Nat.succ v)))]
noncomputable def cyBd (ovs : List sOv) (z : Bool) (e v : Nat) : Bool := sBeg (nat_lit 69) (nat_lit 45) tMv (memB [(nat_lit 0), (nat_lit 16), (nat_lit 39)]) ovs (fun m0 => sx PG (nat_lit 2000) (nat_lit 6) (PG (nat_lit 217)) (fun pc => memB [(nat_lit 37), (nat_lit 85)] pc) (fun pc L st _ m => Bool.and (sKC (cRg [(nat_lit 282666, nat_lit 282666), (Nat.add (nat_lit 348161) v, Nat.add (nat_lit 348161) v), (Nat.add (nat_lit 442368) e, Nat.add (nat_lit 442368) e)]) (nat_lit 69) (nat_lit 45) tMv (memB [(nat_lit 0), (nat_lit 16), (nat_lit 39)]) m0 m) (Bool.and (kAt (nat_lit 37) [some (.inr (.inr (some (nat_lit 0)))), some (.inl (fstE z (Nat.succ v))), some (.inl (.natCast (Nat.succ v))), some (.inl (.pow (.mul (.var (nat_lit 819291)) (.natCast (nat_lit 1))) (nat_lit 0))), some (.inl (.natCast (Nat.succ v)))] [] pc L st) (Bool.and (isE m (nat_lit 16) (Nat.succ v) (.natCast (nat_lit 1))) (Bool.and (isE m (nat_lit 39) e (.natCast (Nat.succ v))) (isE m (nat_lit 0) (nat_lit 42) (.pow (.mul (.var (nat_lit 282666)) (.natCast (nat_lit 1))) (nat_lit 0))))))) (fun v9 _ m => Bool.and (sKC (cRg [(nat_lit 282666, nat_lit 282666), (Nat.add (nat_lit 348161) v, Nat.add (nat_lit 348161) v), (Nat.add (nat_lit 442368) e, Nat.add (nat_lit 442368) e)]) (nat_lit 69) (nat_lit 45) tMv (memB [(nat_lit 0), (nat_lit 16), (nat_lit 39)]) m0 m) false) (nat_lit 48) (LCk e) [.inl (.natCast (Nat.add (nat_lit 49) v))] [(true, z, (.var (nat_lit 819291)), (.natCast (nat_lit 0)))] m0)
noncomputable def cyBx (ovs : List sOv) (e v : Nat) : Bool := sBeg (nat_lit 69) (nat_lit 45) tMv (memB [(nat_lit 0), (nat_lit 16), (nat_lit 39)]) ovs (fun m0 => sx PG (nat_lit 500) (nat_lit 6) (PG (nat_lit 217)) (fun pc => memB [(nat_lit 37), (nat_lit 85)] pc) (fun pc L st _ m => Bool.and (eqL eqC m m0) (kAt (nat_lit 85) (LCx e v) [.inl (.var (nat_lit 282666)), .inl (.natCast (nat_lit 4)), .inr (.inr (some (nat_lit 0)))] pc L st)) (fun v9 _ m => Bool.and (eqL eqC m m0) false) (nat_lit 48) (LCk e) [.inl (.natCast (Nat.add (nat_lit 49) v))] [] m0)
noncomputable def cyS (z : Bool) (e v : Nat) : Bool := cyBd [((nat_lit 0), (nat_lit 50), (.natCast (nat_lit 0)))] z e v
noncomputable def cyW (n : Nat) (z : Bool) (e v : Nat) : Bool := cyBd [((nat_lit 0), (nat_lit 50), (.natCast (nat_lit 1))), ((nat_lit 0), (nat_lit 1), (.natCast n)), ((nat_lit 16), (Nat.succ v), (.natCast (nat_lit 0)))] z e v
theorem q_cyS : ∀ z : Bool, allL 6 (fun e => allL 5 (fun v => cyS z e v)) = true := by decide +kernel
theorem q_cyW : ∀ z : Bool, allL 6 (fun n => allL n (fun v => allL 6 (fun e => cyW n z e v))) = true := by decide +kernel
noncomputable def cyV (n e v : Nat) : Bool := cyBx [((nat_lit 0), (nat_lit 50), (.natCast (nat_lit 1))), ((nat_lit 0), (nat_lit 1), (.natCast n))] e v
theorem q_cyV : allL 6 (fun n => allL 5 (fun v => allL 6 (fun e => Bool.or (Nat.ble (Nat.succ v) n) (cyV n e v)))) = true := by decide +kernel
noncomputable def cyU (n e v : Nat) : Bool := cyBx [((nat_lit 0), (nat_lit 50), (.natCast (nat_lit 1))), ((nat_lit 0), (nat_lit 1), (.natCast n)), ((nat_lit 16), (Nat.succ v), (.natCast (nat_lit 1)))] e v
theorem q_cyU : allL 6 (fun n => allL n (fun v => allL 6 (fun e => cyU n e v))) = true := by decide +kernel
theorem q_cyC : sBeg (nat_lit 69) (nat_lit 45) tMv (memB [(nat_lit 0)]) [] (fun m0 => sx PG (nat_lit 500) (nat_lit 6) (PG (nat_lit 217)) (fun pc => memB [(nat_lit 141), (nat_lit 155)] pc) (fun pc L st _ m => Bool.and (eqL eqC m m0) (kAt (nat_lit 155) LCy [.inl (.var (nat_lit 282666)), .inl (.natCast (nat_lit 1)), .inr (.inr (some (nat_lit 0)))] pc L st)) (fun v _ m => Bool.and (eqL eqC m m0) false) (nat_lit 41) LCy [.inl (.natCast (nat_lit 0))] [(false, true, (.var (nat_lit 819292)), (.natCast (nat_lit 2)))] m0) = true := by decide +kernel
theorem q_cyD : sBeg (nat_lit 69) (nat_lit 45) tMv (memB [(nat_lit 0)]) [] (fun m0 => sx PG (nat_lit 500) (nat_lit 6) (PG (nat_lit 217)) (fun pc => memB [(nat_lit 141), (nat_lit 155)] pc) (fun pc L st _ m => Bool.and (eqL eqC m m0) (kAt (nat_lit 141) LCy [.inr (.inr (some (nat_lit 0)))] pc L st)) (fun v _ m => Bool.and (eqL eqC m m0) false) (nat_lit 41) LCy [.inl (.natCast (nat_lit 0))] [(false, false, (.var (nat_lit 819292)), (.natCast (nat_lit 2)))] m0) = true := by decide +kernel
theorem q_cyF : allL 127 (fun c => Bool.or (Nat.beq c (nat_lit 41)) (sBeg (nat_lit 69) (nat_lit 45) tMv (memB [(nat_lit 0)]) [] (fun m0 => sx PG (nat_lit 500) (nat_lit 6) (PG (nat_lit 217)) (fun pc => memB [(nat_lit 155)] pc) (fun pc L st _ m => Bool.and (eqL eqC m m0) (kAt (nat_lit 155) LCy [.inl (.var (nat_lit 282666)), .inl (.natCast (nat_lit 1)), .inr (.inr (some (nat_lit 0)))] pc L st)) (fun v _ m => Bool.and (eqL eqC m m0) false) (nat_lit 144) LCy [.inl (.natCast c)] [] m0))) = true := by decide +kernel
theorem q_cyG : allL 6 (fun e => sBeg (nat_lit 69) (nat_lit 45) tMv (memB [(nat_lit 0), (nat_lit 39)]) [] (fun m0 => sx PG (nat_lit 2000) (nat_lit 6) (PG (nat_lit 217)) (fun _ => false) (fun pc L st _ m => Bool.and (sKC (cRg [(nat_lit 282666, nat_lit 282666), (Nat.add (nat_lit 442368) e, Nat.add (nat_lit 442368) e)]) (nat_lit 69) (nat_lit 45) tMv (memB [(nat_lit 0), (nat_lit 39)]) m0 m) false) (fun v _ m => Bool.and (sKC (cRg [(nat_lit 282666, nat_lit 282666), (Nat.add (nat_lit 442368) e, Nat.add (nat_lit 442368) e)]) (nat_lit 69) (nat_lit 45) tMv (memB [(nat_lit 0), (nat_lit 39)]) m0 m) (Bool.and (eqO v (some (.inl (.natCast (nat_lit 1))))) (Bool.and (isE m (nat_lit 39) e (.var (nat_lit 819290))) (isE m (nat_lit 0) (nat_lit 42) (.pow (.mul (.var (nat_lit 282666)) (.natCast (nat_lit 1))) (nat_lit 0)))))) (nat_lit 144) (LCk e) [.inl (.natCast (nat_lit 41))] [] m0)) = true := by decide +kernel
theorem q_cyR : sx PG (nat_lit 20) (nat_lit 6) (PG (nat_lit 217)) (fun _ => false) (fun _ _ _ _ _ => false) (fun v0 _ m => Bool.and (eqL eqC m []) (eqO v0 (some (.inl (.natCast (nat_lit 0)))))) (nat_lit 88) [none, none, none, none, none] [.inl (.natCast (nat_lit 0))] [] [] = true := by decide +kernel
theorem q_cyQ : sx PG (nat_lit 20) (nat_lit 6) (PG (nat_lit 217)) (fun _ => false) (fun _ _ _ _ _ => false) (fun v0 _ m => Bool.and (eqL eqC m []) (eqO v0 (some (.inl (.natCast (nat_lit 0)))))) (nat_lit 158) [none, none, none, none, none] [.inl (.natCast (nat_lit 0))] [] [] = true := by decide +kernel
/-- where the model stops -/
def txBd (n z w : Nat) (B : Nat → Nat) (σ : txS) (p : Nat) (r1 : sE) : Prop := W5 r1 0 ∧ L5 r1 ∧ ∃ q σ2, txGo n B σ p σ2 q ∧ q ≤ z ∧ σ2.2.1.length ≤ 80 ∧ ((txBad n B z σ2 q ∧ WHM r1 ((1, q) :: σ2.2.1)) ∨ (w = 1 ∧ q < z ∧ σ2.2.2.2.2.2 = none ∧ ∃ σ3, txD n σ2 (B q) q = some σ3 ∧ σ3.2.2.2.2.2 = some ((4, q) :: σ2.2.1) ∧ WHM r1 ((4, q) :: σ2.2.1)))
theorem txBd_pre {n z w : Nat} {B : Nat → Nat} {σ σ1 : txS} {p q : Nat} {r1 : sE} (h : txGo n B σ p σ1 q) (hb : txBd n z w B σ1 q r1) : txBd n z w B σ p r1 := by
  obtain ⟨a1, a2, u, σ2, h1, h2⟩ := hb
  exact ⟨a1, a2, u, σ2, txGo_trans h h1, h2⟩
theorem mul_len {p q : List Nat} : (mulO p q).length = q.length := by
  induction q with
  | nil => rfl
  | cons a q ih => exact congrArg (· + 1) ih
theorem ord_len {n : Nat} {o : List Nat} (ho : o ∈ ordN n) : o.length = 5 := by
  have h := lAll_ok mul_tab o (ordN_in ho)
  rw [Bool.and_eq_true] at h
  rw [← sLn_ok]
  exact Nat.eq_of_beq_eq_true h.1
theorem mul_get {p q : List Nat} (hq : q.length = 5) {i : Nat} (hi : i < 5) : nthO (mulO p q) i = nthO p (nthO q i - 1) := by
  match q, hq with
  | [a, b, c, d, e], _ =>
    match i, hi with
    | 0, _ => rfl
    | 1, _ => rfl
    | 2, _ => rfl
    | 3, _ => rfl
    | 4, _ => rfl
section RC
variable {D : va_G} {cy : Nat → ClassId} {al : Nat → Nat} {rest : va_W}
theorem LCy_eq {r : sE} {a b c : Int32} {vs : List Int32} : LCy.map (Option.map (sVal (uM r (a :: b :: c :: vs)) al)) = [some (.ref (al 0)), some (.int a), some (.int b), some (.int c), none] := by
  simp only [LCy, List.map_cons, List.map_nil, Option.map_some, Option.map_none, sVal, uM0, uM1, uM2]
theorem LCk_eq {r : sE} {a c : Int32} {e : Nat} {vs : List Int32} : (LCk e).map (Option.map (sVal (uM r (a :: c :: vs)) al)) = [some (.ref (al 0)), some (.int a), some (.int (Int32.ofNat e)), some (.int c), none] := by
  simp only [LCk, List.map_cons, List.map_nil, Option.map_some, Option.map_none, sVal, uM0, uM1, sI_c]
/-- forget the last local -/
theorem wkL {k : Nat} {At : gAt} (hLD : gLD k At) {pc : Nat} {a b c d e : Option Value} {SV : List Value} {w : va_W} (h : At pc [a, b, c, d, none] SV w) : At pc [a, b, c, d, e] SV w := hLD.2.2 pc _ [a, b, c, d, none] _ _ rfl (fun i v hv => by
  match i, hv with
  | 0, hv => exact hv
  | 1, hv => exact hv
  | 2, hv => exact hv
  | 3, hv => exact hv
  | 4, hv => cases hv
  | i + 5, hv => cases hv) h
theorem wkA {k : Nat} {At : gAt} (hLD : gLD k At) {pc : Nat} {a b c d e : Option Value} {SV : List Value} {w : va_W} (h : At pc [none, none, none, none, none] SV w) : At pc [a, b, c, d, e] SV w := hLD.2.2 pc _ [none, none, none, none, none] _ _ rfl (fun i v hv => by
  match i, hv with
  | 0, hv => cases hv
  | 1, hv => cases hv
  | 2, hv => cases hv
  | 3, hv => cases hv
  | 4, hv => cases hv
  | i + 5, hv => cases hv) h
theorem le5_of {r : sE} {u k : Nat} (hk : k ≤ 5) (h : r.1 u = Int32.ofNat k) : le5 r u := ⟨k, hk, h⟩
/-- what a cycle changes -/
def CHC : List (Nat × Nat) := [(282666, 282666), (348160, 348165), (442368, 442373)]
theorem c_cyM (l : Launch) {r : sE} {n z w p d b k : Nat} {B : Nat → Nat} {O : txT} {M : List (List Nat)} {W : Option txT} (hd : 6 ≤ d) (hn : 1 ≤ n) (hn5 : n ≤ 5) (hz : z ≤ 80) (hw : w < 2) (hB : ∀ i, i < z → B i < 127) (hp : p ≤ z) (hO : O.length ≤ p) (hS : MSt n z w B r p O b k) (hW : w = 1 → W = none) : gMet l D cy al d 217 (tW r al cy rest 45 tMv) [.ref (al 0)] (fun v w2 => ∃ r1, w2 = tW r1 al cy rest 45 tMv ∧ ((v = some (.int (Int32.ofNat 1)) ∧ kpC (cRg CHC) 69 45 tMv r r1 ∧ ∃ q o s f W1, p < q ∧ q ≤ z ∧ txGo n B (2, O, M, [], 0, W) p (txF O M o s f W1) q ∧ (w = 1 → W1 = none) ∧ PRt n w r1 o ∧ MSt n z w B r1 q O b k) ∨ (v = some (.int (Int32.ofNat 0)) ∧ kpC (cRg CHF) 69 45 tMv r r1 ∧ txBd n z w B (2, O, M, [], 0, W) p r1))) := by
  refine gMet_up hd ?_
  have key := gMet_ofL (l := l) (D := D) (cy := cy) (al := al) (d := 6) (k := 217) (w := tW r al cy rest 45 tMv) (r := uM r []) (G := fun v w2 => ∃ r1, w2 = tW r1 al cy rest 45 tMv ∧ ((v = some (.int (Int32.ofNat 1)) ∧ kpC (cRg CHC) 69 45 tMv r r1 ∧ ∃ q o s f W1, p < q ∧ q ≤ z ∧ txGo n B (2, O, M, [], 0, W) p (txF O M o s f W1) q ∧ (w = 1 → W1 = none) ∧ PRt n w r1 o ∧ MSt n z w B r1 q O b k) ∨ (v = some (.int (Int32.ofNat 0)) ∧ kpC (cRg CHF) 69 45 tMv r r1 ∧ txBd n z w B (2, O, M, [], 0, W) p r1))) q_cyE (fun At hFCd hLD => ?_)
  · simp only [List.map_cons, List.map_nil, sVal] at key
    exact key
  have hFC := hFCd 6 (Nat.le_refl _)
  -- it fails
  have fail : ∀ (pc nx t q : Nat) (r2 : sE) (LV : List (Option Value)), (pc = 85 ∧ nx = 88) ∨ (pc = 155 ∧ nx = 158) → LV.length = 5 → kpC (cRg CHC) 69 45 tMv r r2 → MOp r2 O → W5 r2 k → L5 r2 → q ≤ z → (∀ r3, WHM r3 ((t, q) :: O) → W5 r3 0 → L5 r3 → txBd n z w B (2, O, M, [], 0, W) p r3) → At pc LV [.int (Int32.ofNat q), .int (Int32.ofNat t), .ref (al 0)] (tW r2 al cy rest 45 tMv) := fun pc nx t q r2 LV hpc hLV hkp hO2 hw5 hl5 hq hbd => by
    obtain ⟨x1, x2, x3, x4, x5, rfl⟩ : ∃ x1 x2 x3 x4 x5, LV = [x1, x2, x3, x4, x5] := by
      match LV, hLV with
      | [x1, x2, x3, x4, x5], _ => exact ⟨x1, x2, x3, x4, x5, rfl⟩
    have hrow : gRow 217 pc nx 215 := by
      rcases hpc with ⟨rfl, rfl⟩ | ⟨rfl, rfl⟩
      · exact ⟨_, _, rfl, rfl⟩
      · exact ⟨_, _, rfl, rfl⟩
    refine hFC.2 pc nx 215 5 _ [.ref (al 0), .int (Int32.ofNat t), .int (Int32.ofNat q)] [] _ _ hrow rfl (by decide) rfl (gRecv_t (by omega) rfl rfl) (c_flM l (by omega) (by omega) hO2) (fun v1 w2 h => ?_)
    obtain ⟨rfl, r3, k1, k2, k3, rfl⟩ := h
    have hG : ∃ r1, tW r3 al cy rest 45 tMv = tW r1 al cy rest 45 tMv ∧ ((some (Value.int (Int32.ofNat 0)) = some (.int (Int32.ofNat 1)) ∧ kpC (cRg CHC) 69 45 tMv r r1 ∧ ∃ q o s f W1, p < q ∧ q ≤ z ∧ txGo n B (2, O, M, [], 0, W) p (txF O M o s f W1) q ∧ (w = 1 → W1 = none) ∧ PRt n w r1 o ∧ MSt n z w B r1 q O b k) ∨ (some (Value.int (Int32.ofNat 0)) = some (.int (Int32.ofNat 0)) ∧ kpC (cRg CHF) 69 45 tMv r r1 ∧ txBd n z w B (2, O, M, [], 0, W) p r1)) := ⟨r3, rfl, Or.inr ⟨rfl, kpC_trans (cRg_w hkp ⟨⟨282666, 282666, by simp [CHF], by omega, by omega⟩, ⟨348160, 348165, by simp [CHF], by omega, by omega⟩, ⟨438272, 442373, by simp [CHF], by omega, by omega⟩, trivial⟩) k1, hbd r3 k2 (W5_kf k3 hw5) (L5_kf k3 hl5)⟩⟩
    refine wkA hLD ?_
    rcases hpc with ⟨-, rfl⟩ | ⟨-, rfl⟩
    · have g := g_ret (v := some (.int (Int32.ofNat 0))) hFC (r := uM r []) (w := tW r3 al cy rest 45 tMv) q_cyR (fun v0 h0 => vI_ok h0) hG
      simp only [List.map_cons, List.map_nil, sVal, sI_c] at g
      exact g
    · have g := g_ret (v := some (.int (Int32.ofNat 0))) hFC (r := uM r []) (w := tW r3 al cy rest 45 tMv) q_cyQ (fun v0 h0 => vI_ok h0) hG
      simp only [List.map_cons, List.map_nil, sVal, sI_c] at g
      exact g
  have loop : ∀ (m q : Nat) (r2 : sE) (s : List Nat) (f : Nat) (W1 : Option txT) (fi la : Nat), q + m = z → p ≤ q → f ≤ q → kpC (cRg CHC) 69 45 tMv r r2 → MSt n z w B r2 q O b k → txGo n B (2, O, M, [], 0, W) p (2, O, M, s, f, W1) q → s ∈ SQ → (∀ a ∈ s, a ≤ n) → fi ≤ 5 → la ≤ 5 → (∀ i, i < 5 → le5 r2 (mP 39 1 + i)) → (w = 1 → W1 = none ∧ f = s.length ∧ fi = hdC s ∧ la = laC s ∧ (∀ i, i < 5 → r2.1 (mP 39 1 + i) = Int32.ofNat (nxC s (i + 1) (i + 1))) ∧ ∀ i, i < 5 → r2.1 (mP 16 1 + i) = Int32.ofNat (if i + 1 ∈ s then 1 else 0)) → At 37 [some (.ref (al 0)), some (.int (Int32.ofNat fi)), some (.int (Int32.ofNat la)), some (.int (Int32.ofNat f)), none] [] (tW r2 al cy rest 45 tMv) := by
    intro m
    induction m with
    | zero =>
      intro q r2 s f W1 fi la hqm hpq hfq hkp hS2 hgo hs hsn hfi hla hpt hw1
      obtain ⟨t1, t2, t3, t4, t5, t6⟩ := id hS2
      have hqz : q ≤ z := by omega
      have hLy : ∀ (r3 : sE) (x : List Int32), LCy.map (Option.map (sVal (uM r3 (Int32.ofNat fi :: Int32.ofNat la :: Int32.ofNat f :: x)) al)) = [some (.ref (al 0)), some (.int (Int32.ofNat fi)), some (.int (Int32.ofNat la)), some (.int (Int32.ofNat f)), none] := fun r3 x => LCy_eq
      have hlt : sI (uM r2 [Int32.ofNat fi, Int32.ofNat la, Int32.ofNat f]) (.var (nat_lit 819292)) < sI (uM r2 [Int32.ofNat fi, Int32.ofNat la, Int32.ofNat f]) (.natCast (nat_lit 2)) ↔ f < 2 := by
        rw [uM2, sI_c]
        exact lt80 (by omega) (by decide)
      have sat : ∀ (x y : Int32), sI (uM r2 [x, y]) (.var (nat_lit 282666)) = Int32.ofNat q := fun x y => by rw [uMv (by decide)]; exact t2
      have sat3 : ∀ (x y u : Int32), sI (uM r2 [x, y, u]) (.var (nat_lit 282666)) = Int32.ofNat q := fun x y u => by rw [uMv (by decide)]; exact t2
      -- no figure, or none more: the end of the cycle
      have noFig : ¬ (49 ≤ txB z B q ∧ txB z B q ≤ 53) → At 41 [some (.ref (al 0)), some (.int (Int32.ofNat fi)), some (.int (Int32.ofNat la)), some (.int (Int32.ofNat f)), none] [.int (Int32.ofNat 0)] (tW r2 al cy rest 45 tMv) := fun hnf => by
        have bad1 : ¬ (txB z B q = 41 ∧ 2 ≤ f) → ∀ r3, WHM r3 ((1, q) :: O) → W5 r3 0 → L5 r3 → txBd n z w B (2, O, M, [], 0, W) p r3 := fun hc r3 h3 g5 g6 => by
          refine ⟨g5, g6, q, _, hgo, hqz, (by show O.length ≤ 80; omega), Or.inl ⟨⟨hqz, ?_, fun h => ?_⟩, h3⟩⟩
          · by_cases hq2 : q = z
            · exact Or.inl hq2
            · refine Or.inr ⟨by omega, ?_⟩
              have hb : txB z B q = B q := if_pos (by omega)
              rw [hb] at hnf hc
              show tx2 n _ (B q) q = none
              unfold tx2
              rw [if_neg hnf, if_neg hc]
          · have h4 : (2 : Nat) = 3 := h.2.1
            omega
        by_cases h2 : 2 ≤ f
        · have g := g_segV hFC (r := r2) (vs := [Int32.ofNat fi, Int32.ofNat la, Int32.ofNat f]) (al := al) (cy := cy) (rest := rest) (by omega) tMv_ok cC_M (sPa_cons.mpr ⟨(sKd_f (e := false)).mpr (fun h => absurd (hlt.mp h) (by omega)), sPa_nil⟩) oM_nil q_cyD (fun pc L st pa hk1 hp1 => ?_) (fun v pa hk1 => nomatch hk1)
          · rw [hLy] at g
            simp only [List.map_cons, List.map_nil, sVal, sI_c] at g
            exact g
          obtain ⟨rfl, rfl, rfl⟩ := kAt_ok hk1
          refine hFC.2 141 144 213 5 _ [.ref (al 0)] [] _ _ ⟨_, _, rfl, rfl⟩ rfl (by decide) rfl (gRecv_t (by omega) rfl rfl) (c_here l (by omega) hz hqz t1 t2) (fun v1 w2 h => ?_)
          obtain ⟨rfl, rfl⟩ := h
          by_cases h41 : txB z B q = 41
          · rw [h41]
            have hq2 : q < z := by
              by_cases h : q < z
              · exact h
              · unfold txB at h41
                rw [if_neg h] at h41
                cases h41
            have hbq : B q = 41 := by
              unfold txB at h41
              rw [if_pos hq2] at h41
              exact h41
            have g := g_segU hFC (r := r2) (vs := [Int32.ofNat fi, Int32.ofNat f]) (al := al) (cy := cy) (rest := rest) (by omega) tMv_ok cC_M sPa_nil oM_nil (allL_ok q_cyG la (by omega)) (fun m0 pc L st pa m hk2 => nomatch hk2) (fun m0 v pa m1 hk2 hp2 hkp0 => ?_)
            · rw [LCk_eq] at g
              rw [hLy]
              simp only [List.map_cons, List.map_nil, sVal, sI_c] at g
              exact g
            simp only [Bool.and_eq_true] at hk2
            obtain ⟨k1, k2, k3⟩ := hk2
            have hkp3 : kpC (cRg [(282666, 282666), (442368 + la, 442368 + la)]) 69 45 tMv r2 _ := hkp0
            have e1 := eU_0 (b := 69) (r := r2) (x := Int32.ofNat fi) (vs := [Int32.ofNat f]) (by omega) k2
            have e2 := (isE_ok (b := 69) (r := uM r2 [Int32.ofNat fi, Int32.ofNat f]) (by first | decide | omega) k3).trans (sI_add1 t2 (by decide))
            generalize eOf 69 (uM r2 [Int32.ofNat fi, Int32.ofNat f]) m1 = r3 at hkp3 e1 e2
            refine ⟨r3, rfl, Or.inl ⟨vI_ok k1, kpC_trans hkp (cRg_w hkp3 ⟨⟨282666, 282666, by simp [CHC], by omega, by omega⟩, ⟨442368, 442373, by simp [CHC], by omega, by omega⟩, trivial⟩), q + 1, txC s, s, f, W1, by omega, by omega, txGo_trans hgo (txGo_one ?_), fun h => (hw1 h).1, ?_, ?_⟩⟩
            · show tx2 n _ (B q) q = _
              unfold tx2
              rw [hbq, if_neg (by decide), if_pos ⟨rfl, h2⟩]
            · have hpl : ∀ i, i < 5 → r3.1 (mP 39 1 + i) = if i + 1 = la then Int32.ofNat fi else r2.1 (mP 39 1 + i) := fun i hi => by
                split
                · next h => rw [← e1, show mP 39 1 + i = 4096 * (69 + 39) + la by unfold mP; omega]
                · next h =>
                  have := kpR hkp3 (vM_r.2.2.2 (1 + i) (by omega)).1 ⟨by first | omega | (unfold mP; omega), by first | omega | (unfold mP; omega), trivial⟩
                  rw [show mP 39 1 + i = mP 39 (1 + i) by unfold mP; omega]
                  exact this
              refine ⟨fun i hi => ?_, fun h => ⟨sq_ord hn hn5 hs hsn, fun i hi => ?_⟩⟩
              · have := hpl i hi
                split at this
                · exact le5_of hfi this
                · exact le5_st this (hpt i hi)
              · obtain ⟨w1, w2, w3, w4, w5, w6⟩ := hw1 h
                have h0 : hdC s ≠ 0 := fun h0 => by
                  rw [(hdC_0 hs).mp h0] at w2
                  simp at w2
                  omega
                have hfn := sq_fin hs h0 (i := i + 1) (by omega) (by omega)
                rw [hpl i hi, nthO_eq, txC_get hi, ← hfn, w3, w4]
                split
                · rfl
                · rw [w5 i hi]
            · exact ⟨TMr_st hz hkp3 ⟨by first | omega | (unfold mP; omega), by first | omega | (unfold mP; omega), trivial⟩ ⟨by first | omega | (unfold mP; omega), by first | omega | (unfold mP; omega), trivial⟩ ⟨by first | omega | (unfold mP; omega), by first | omega | (unfold mP; omega), trivial⟩ (fun i hi => ⟨by first | omega | (unfold mP; omega), by first | omega | (unfold mP; omega), trivial⟩) t1, e2, MOp_st hkp3 (by omega) ⟨by first | omega | (unfold mP; omega), by first | omega | (unfold mP; omega), trivial⟩ (fun i hi => ⟨⟨by first | omega | (unfold mP; omega), by first | omega | (unfold mP; omega), trivial⟩, ⟨by first | omega | (unfold mP; omega), by first | omega | (unfold mP; omega), trivial⟩⟩) t3, (kpR hkp3 (vM_0 46 (by simp)) ⟨by first | omega | (unfold mP; omega), by first | omega | (unfold mP; omega), trivial⟩).trans t4, W5_st hkp3 (fun i hi => ⟨by first | omega | (unfold mP; omega), by first | omega | (unfold mP; omega), trivial⟩) t5, L5_st hkp3 (fun i hi => ⟨by first | omega | (unfold mP; omega), by first | omega | (unfold mP; omega), trivial⟩) t6⟩
          · have hq := allL_ok q_cyF (txB z B q) (txB_lt hB)
            rw [Bool.or_eq_true] at hq
            rcases hq with hq | hq
            · exact absurd (Nat.eq_of_beq_eq_true hq) h41
            have g := g_segV hFC (r := r2) (vs := [Int32.ofNat fi, Int32.ofNat la, Int32.ofNat f]) (al := al) (cy := cy) (rest := rest) (by omega) tMv_ok cC_M sPa_nil oM_nil hq (fun pc L st pa hk1 hp1 => ?_) (fun v pa hk1 => nomatch hk1)
            · simp only [List.map_cons, List.map_nil, sVal, sI_c] at g
              exact g
            obtain ⟨rfl, rfl, rfl⟩ := kAt_ok hk1
            simp only [List.map_cons, List.map_nil, sVal, sI_c, sat3]
            exact fail 155 158 1 q r2 _ (Or.inr ⟨rfl, rfl⟩) (by simp [LCy]) hkp t3 t5 t6 hqz (bad1 (fun h => h41 h.1))
        · have g := g_segV hFC (r := r2) (vs := [Int32.ofNat fi, Int32.ofNat la, Int32.ofNat f]) (al := al) (cy := cy) (rest := rest) (by omega) tMv_ok cC_M (sPa_cons.mpr ⟨(sKd_t (e := false)).mpr (hlt.mpr (by omega)), sPa_nil⟩) oM_nil q_cyC (fun pc L st pa hk1 hp1 => ?_) (fun v pa hk1 => nomatch hk1)
          · rw [hLy] at g
            simp only [List.map_cons, List.map_nil, sVal, sI_c] at g
            exact g
          obtain ⟨rfl, rfl, rfl⟩ := kAt_ok hk1
          simp only [List.map_cons, List.map_nil, sVal, sI_c, sat3]
          exact fail 155 158 1 q r2 _ (Or.inr ⟨rfl, rfl⟩) (by simp [LCy]) hkp t3 t5 t6 hqz (bad1 (fun h => h2 h.2))
      have g := g_pure hFC (r := uM r2 [Int32.ofNat fi, Int32.ofNat la, Int32.ofNat f]) (al := al) (w := tW r2 al cy rest 45 tMv) sPa_nil q_cyA (fun pc L st hk => ?_) (fun v hk => nomatch hk)
      · rw [hLy] at g
        exact g
      obtain ⟨rfl, rfl, rfl⟩ := kAt_ok hk
      rw [hLy]
      refine hFC.2 38 41 216 5 _ [.ref (al 0)] [] _ _ ⟨_, _, rfl, rfl⟩ rfl (by decide) rfl (gRecv_t (by omega) rfl rfl) (c_fig l (by omega) hz hqz hB t1 t2) (fun v1 w2 h => ?_)
      obtain ⟨rfl, rfl⟩ := h
      rcases isF_ok (c := txB z B q) with ⟨hF, hfig⟩ | ⟨hF, hfig⟩
      · rw [hF]
        exfalso
        unfold txB at hfig
        rw [if_neg (by omega)] at hfig
        omega
      · rw [hF]
        exact noFig hfig
    | succ m ih =>
      intro q r2 s f W1 fi la hqm hpq hfq hkp hS2 hgo hs hsn hfi hla hpt hw1
      obtain ⟨t1, t2, t3, t4, t5, t6⟩ := id hS2
      have hqz : q ≤ z := by omega
      have hLy : ∀ (r3 : sE) (x : List Int32), LCy.map (Option.map (sVal (uM r3 (Int32.ofNat fi :: Int32.ofNat la :: Int32.ofNat f :: x)) al)) = [some (.ref (al 0)), some (.int (Int32.ofNat fi)), some (.int (Int32.ofNat la)), some (.int (Int32.ofNat f)), none] := fun r3 x => LCy_eq
      have hlt : sI (uM r2 [Int32.ofNat fi, Int32.ofNat la, Int32.ofNat f]) (.var (nat_lit 819292)) < sI (uM r2 [Int32.ofNat fi, Int32.ofNat la, Int32.ofNat f]) (.natCast (nat_lit 2)) ↔ f < 2 := by
        rw [uM2, sI_c]
        exact lt80 (by omega) (by decide)
      have sat : ∀ (x y : Int32), sI (uM r2 [x, y]) (.var (nat_lit 282666)) = Int32.ofNat q := fun x y => by rw [uMv (by decide)]; exact t2
      have sat3 : ∀ (x y u : Int32), sI (uM r2 [x, y, u]) (.var (nat_lit 282666)) = Int32.ofNat q := fun x y u => by rw [uMv (by decide)]; exact t2
      -- no figure, or none more: the end of the cycle
      have noFig : ¬ (49 ≤ txB z B q ∧ txB z B q ≤ 53) → At 41 [some (.ref (al 0)), some (.int (Int32.ofNat fi)), some (.int (Int32.ofNat la)), some (.int (Int32.ofNat f)), none] [.int (Int32.ofNat 0)] (tW r2 al cy rest 45 tMv) := fun hnf => by
        have bad1 : ¬ (txB z B q = 41 ∧ 2 ≤ f) → ∀ r3, WHM r3 ((1, q) :: O) → W5 r3 0 → L5 r3 → txBd n z w B (2, O, M, [], 0, W) p r3 := fun hc r3 h3 g5 g6 => by
          refine ⟨g5, g6, q, _, hgo, hqz, (by show O.length ≤ 80; omega), Or.inl ⟨⟨hqz, ?_, fun h => ?_⟩, h3⟩⟩
          · by_cases hq2 : q = z
            · exact Or.inl hq2
            · refine Or.inr ⟨by omega, ?_⟩
              have hb : txB z B q = B q := if_pos (by omega)
              rw [hb] at hnf hc
              show tx2 n _ (B q) q = none
              unfold tx2
              rw [if_neg hnf, if_neg hc]
          · have h4 : (2 : Nat) = 3 := h.2.1
            omega
        by_cases h2 : 2 ≤ f
        · have g := g_segV hFC (r := r2) (vs := [Int32.ofNat fi, Int32.ofNat la, Int32.ofNat f]) (al := al) (cy := cy) (rest := rest) (by omega) tMv_ok cC_M (sPa_cons.mpr ⟨(sKd_f (e := false)).mpr (fun h => absurd (hlt.mp h) (by omega)), sPa_nil⟩) oM_nil q_cyD (fun pc L st pa hk1 hp1 => ?_) (fun v pa hk1 => nomatch hk1)
          · rw [hLy] at g
            simp only [List.map_cons, List.map_nil, sVal, sI_c] at g
            exact g
          obtain ⟨rfl, rfl, rfl⟩ := kAt_ok hk1
          refine hFC.2 141 144 213 5 _ [.ref (al 0)] [] _ _ ⟨_, _, rfl, rfl⟩ rfl (by decide) rfl (gRecv_t (by omega) rfl rfl) (c_here l (by omega) hz hqz t1 t2) (fun v1 w2 h => ?_)
          obtain ⟨rfl, rfl⟩ := h
          by_cases h41 : txB z B q = 41
          · rw [h41]
            have hq2 : q < z := by
              by_cases h : q < z
              · exact h
              · unfold txB at h41
                rw [if_neg h] at h41
                cases h41
            have hbq : B q = 41 := by
              unfold txB at h41
              rw [if_pos hq2] at h41
              exact h41
            have g := g_segU hFC (r := r2) (vs := [Int32.ofNat fi, Int32.ofNat f]) (al := al) (cy := cy) (rest := rest) (by omega) tMv_ok cC_M sPa_nil oM_nil (allL_ok q_cyG la (by omega)) (fun m0 pc L st pa m hk2 => nomatch hk2) (fun m0 v pa m1 hk2 hp2 hkp0 => ?_)
            · rw [LCk_eq] at g
              rw [hLy]
              simp only [List.map_cons, List.map_nil, sVal, sI_c] at g
              exact g
            simp only [Bool.and_eq_true] at hk2
            obtain ⟨k1, k2, k3⟩ := hk2
            have hkp3 : kpC (cRg [(282666, 282666), (442368 + la, 442368 + la)]) 69 45 tMv r2 _ := hkp0
            have e1 := eU_0 (b := 69) (r := r2) (x := Int32.ofNat fi) (vs := [Int32.ofNat f]) (by omega) k2
            have e2 := (isE_ok (b := 69) (r := uM r2 [Int32.ofNat fi, Int32.ofNat f]) (by first | decide | omega) k3).trans (sI_add1 t2 (by decide))
            generalize eOf 69 (uM r2 [Int32.ofNat fi, Int32.ofNat f]) m1 = r3 at hkp3 e1 e2
            refine ⟨r3, rfl, Or.inl ⟨vI_ok k1, kpC_trans hkp (cRg_w hkp3 ⟨⟨282666, 282666, by simp [CHC], by omega, by omega⟩, ⟨442368, 442373, by simp [CHC], by omega, by omega⟩, trivial⟩), q + 1, txC s, s, f, W1, by omega, by omega, txGo_trans hgo (txGo_one ?_), fun h => (hw1 h).1, ?_, ?_⟩⟩
            · show tx2 n _ (B q) q = _
              unfold tx2
              rw [hbq, if_neg (by decide), if_pos ⟨rfl, h2⟩]
            · have hpl : ∀ i, i < 5 → r3.1 (mP 39 1 + i) = if i + 1 = la then Int32.ofNat fi else r2.1 (mP 39 1 + i) := fun i hi => by
                split
                · next h => rw [← e1, show mP 39 1 + i = 4096 * (69 + 39) + la by unfold mP; omega]
                · next h =>
                  have := kpR hkp3 (vM_r.2.2.2 (1 + i) (by omega)).1 ⟨by first | omega | (unfold mP; omega), by first | omega | (unfold mP; omega), trivial⟩
                  rw [show mP 39 1 + i = mP 39 (1 + i) by unfold mP; omega]
                  exact this
              refine ⟨fun i hi => ?_, fun h => ⟨sq_ord hn hn5 hs hsn, fun i hi => ?_⟩⟩
              · have := hpl i hi
                split at this
                · exact le5_of hfi this
                · exact le5_st this (hpt i hi)
              · obtain ⟨w1, w2, w3, w4, w5, w6⟩ := hw1 h
                have h0 : hdC s ≠ 0 := fun h0 => by
                  rw [(hdC_0 hs).mp h0] at w2
                  simp at w2
                  omega
                have hfn := sq_fin hs h0 (i := i + 1) (by omega) (by omega)
                rw [hpl i hi, nthO_eq, txC_get hi, ← hfn, w3, w4]
                split
                · rfl
                · rw [w5 i hi]
            · exact ⟨TMr_st hz hkp3 ⟨by first | omega | (unfold mP; omega), by first | omega | (unfold mP; omega), trivial⟩ ⟨by first | omega | (unfold mP; omega), by first | omega | (unfold mP; omega), trivial⟩ ⟨by first | omega | (unfold mP; omega), by first | omega | (unfold mP; omega), trivial⟩ (fun i hi => ⟨by first | omega | (unfold mP; omega), by first | omega | (unfold mP; omega), trivial⟩) t1, e2, MOp_st hkp3 (by omega) ⟨by first | omega | (unfold mP; omega), by first | omega | (unfold mP; omega), trivial⟩ (fun i hi => ⟨⟨by first | omega | (unfold mP; omega), by first | omega | (unfold mP; omega), trivial⟩, ⟨by first | omega | (unfold mP; omega), by first | omega | (unfold mP; omega), trivial⟩⟩) t3, (kpR hkp3 (vM_0 46 (by simp)) ⟨by first | omega | (unfold mP; omega), by first | omega | (unfold mP; omega), trivial⟩).trans t4, W5_st hkp3 (fun i hi => ⟨by first | omega | (unfold mP; omega), by first | omega | (unfold mP; omega), trivial⟩) t5, L5_st hkp3 (fun i hi => ⟨by first | omega | (unfold mP; omega), by first | omega | (unfold mP; omega), trivial⟩) t6⟩
          · have hq := allL_ok q_cyF (txB z B q) (txB_lt hB)
            rw [Bool.or_eq_true] at hq
            rcases hq with hq | hq
            · exact absurd (Nat.eq_of_beq_eq_true hq) h41
            have g := g_segV hFC (r := r2) (vs := [Int32.ofNat fi, Int32.ofNat la, Int32.ofNat f]) (al := al) (cy := cy) (rest := rest) (by omega) tMv_ok cC_M sPa_nil oM_nil hq (fun pc L st pa hk1 hp1 => ?_) (fun v pa hk1 => nomatch hk1)
            · simp only [List.map_cons, List.map_nil, sVal, sI_c] at g
              exact g
            obtain ⟨rfl, rfl, rfl⟩ := kAt_ok hk1
            simp only [List.map_cons, List.map_nil, sVal, sI_c, sat3]
            exact fail 155 158 1 q r2 _ (Or.inr ⟨rfl, rfl⟩) (by simp [LCy]) hkp t3 t5 t6 hqz (bad1 (fun h => h41 h.1))
        · have g := g_segV hFC (r := r2) (vs := [Int32.ofNat fi, Int32.ofNat la, Int32.ofNat f]) (al := al) (cy := cy) (rest := rest) (by omega) tMv_ok cC_M (sPa_cons.mpr ⟨(sKd_t (e := false)).mpr (hlt.mpr (by omega)), sPa_nil⟩) oM_nil q_cyC (fun pc L st pa hk1 hp1 => ?_) (fun v pa hk1 => nomatch hk1)
          · rw [hLy] at g
            simp only [List.map_cons, List.map_nil, sVal, sI_c] at g
            exact g
          obtain ⟨rfl, rfl, rfl⟩ := kAt_ok hk1
          simp only [List.map_cons, List.map_nil, sVal, sI_c, sat3]
          exact fail 155 158 1 q r2 _ (Or.inr ⟨rfl, rfl⟩) (by simp [LCy]) hkp t3 t5 t6 hqz (bad1 (fun h => h2 h.2))
      have g := g_pure hFC (r := uM r2 [Int32.ofNat fi, Int32.ofNat la, Int32.ofNat f]) (al := al) (w := tW r2 al cy rest 45 tMv) sPa_nil q_cyA (fun pc L st hk => ?_) (fun v hk => nomatch hk)
      · rw [hLy] at g
        exact g
      obtain ⟨rfl, rfl, rfl⟩ := kAt_ok hk
      rw [hLy]
      refine hFC.2 38 41 216 5 _ [.ref (al 0)] [] _ _ ⟨_, _, rfl, rfl⟩ rfl (by decide) rfl (gRecv_t (by omega) rfl rfl) (c_fig l (by omega) hz hqz hB t1 t2) (fun v1 w2 h => ?_)
      obtain ⟨rfl, rfl⟩ := h
      rcases isF_ok (c := txB z B q) with ⟨hF, hfig⟩ | ⟨hF, hfig⟩
      · rw [hF]
        have hq2 : q < z := by omega
        have hb : txB z B q = B q := if_pos hq2
        rw [hb] at hfig
        have g := g_pure hFC (r := uM r2 [Int32.ofNat fi, Int32.ofNat la, Int32.ofNat f]) (al := al) (w := tW r2 al cy rest 45 tMv) sPa_nil q_cyB (fun pc L st hk => ?_) (fun v hk => nomatch hk)
        · rw [hLy] at g
          simp only [List.map_cons, List.map_nil, sVal, sI_c] at g
          exact g
        obtain ⟨rfl, rfl, rfl⟩ := kAt_ok hk
        rw [hLy]
        refine hFC.2 45 48 213 5 _ [.ref (al 0)] [] _ _ ⟨_, _, rfl, rfl⟩ rfl (by decide) rfl (gRecv_t (by omega) rfl rfl) (c_here l (by omega) hz hqz t1 t2) (fun v1 w2 h => ?_)
        obtain ⟨rfl, rfl⟩ := h
        rw [hb]
        obtain ⟨v, hv⟩ : ∃ v, B q = 49 + v := ⟨B q - 49, by omega⟩
        have hv5 : v < 5 := by omega
        have hv1 : B q - 48 = v + 1 := by omega
        rw [hv]
        -- the figure is taken
        have go : ∀ (hq : ∀ zz : Bool, ∃ ovs, (∀ q ∈ ovs, (uM r2 [Int32.ofNat fi, Int32.ofNat f]).1 (4096 * (69 + q.1) + q.2.1) = sI (uM r2 [Int32.ofNat fi, Int32.ofNat f]) q.2.2) ∧ cyBd ovs zz la v = true) (s1 : List Nat) (W2 : Option txT), txD n (2, O, M, s, f, W1) (B q) q = some (2, O, M, s1, f + 1, W2) → s1 ∈ SQ → (∀ a ∈ s1, a ≤ n) → (w = 1 → W2 = none ∧ s1 = s ++ [v + 1] ∧ v + 1 ∉ s) → At 48 [some (.ref (al 0)), some (.int (Int32.ofNat fi)), some (.int (Int32.ofNat la)), some (.int (Int32.ofNat f)), none] [.int (Int32.ofNat (49 + v))] (tW r2 al cy rest 45 tMv) := fun hq s1 W2 hD hs1 hsn1 hw2 => by
          have hz0 : sI (uM r2 [Int32.ofNat fi, Int32.ofNat f]) (.var (nat_lit 819291)) = sI (uM r2 [Int32.ofNat fi, Int32.ofNat f]) (.natCast (nat_lit 0)) ↔ f = 0 := by
            rw [uM1, sI_c]
            exact ⟨fun h => n32_inj (by omega) (by omega) h, fun h => by rw [h]⟩
          obtain ⟨zz, hzz⟩ : ∃ zz : Bool, (zz = true ↔ f = 0) := by
            by_cases h : f = 0
            · exact ⟨true, fun _ => h, fun _ => rfl⟩
            · exact ⟨false, (fun q => nomatch q), fun q => absurd q h⟩
          obtain ⟨ovs, ho1, ho2⟩ := hq zz
          have g := g_segU hFC (r := r2) (vs := [Int32.ofNat fi, Int32.ofNat f]) (al := al) (cy := cy) (rest := rest) (by omega) tMv_ok cC_M (pa := [(true, zz, (.var (nat_lit 819291)), (.natCast (nat_lit 0)))]) (sPa_cons.mpr ⟨by
            cases zz with
            | true => exact (sKd_t (e := true)).mpr (hz0.mpr (hzz.mp rfl))
            | false => exact (sKd_f (e := true)).mpr (fun h => nomatch (hzz.mpr (hz0.mp h))), sPa_nil⟩) ho1 ho2 (fun m0 pc L st pa m hk2 hp2 hkp0 => ?_) (fun m0 v pa m1 hk2 => nomatch hk2)
          · rw [LCk_eq] at g
            simp only [List.map_cons, List.map_nil, sVal, sI_c] at g
            exact g
          simp only [Bool.and_eq_true] at hk2
          obtain ⟨k0, k1, k2, k3⟩ := hk2
          obtain ⟨rfl, rfl, rfl⟩ := kAt_ok k0
          have hkp3 : kpC (cRg [(282666, 282666), (348161 + v, 348161 + v), (442368 + la, 442368 + la)]) 69 45 tMv r2 _ := hkp0
          have e0 := eU_c (b := 69) (r := r2) (vs := [Int32.ofNat fi, Int32.ofNat f]) (by first | decide | omega) k1
          have e1 := eU_c (b := 69) (r := r2) (vs := [Int32.ofNat fi, Int32.ofNat f]) (by first | decide | omega) k2
          have e2 := (isE_ok (b := 69) (r := uM r2 [Int32.ofNat fi, Int32.ofNat f]) (by first | decide | omega) k3).trans (sI_add1 t2 (by decide))
          have eF : sI (uM r2 [Int32.ofNat fi, Int32.ofNat f]) (fstE zz (Nat.succ v)) = Int32.ofNat (if f = 0 then v + 1 else fi) := by
            cases zz with
            | true => rw [if_pos (hzz.mp rfl)]; exact sI_c
            | false => rw [if_neg (fun h => nomatch (hzz.mpr h))]; exact uM0
          have eM : sI (uM r2 [Int32.ofNat fi, Int32.ofNat f]) (.pow (.mul (.var (nat_lit 819291)) (.natCast (nat_lit 1))) (nat_lit 0)) = Int32.ofNat (f + 1) := by
            show (sD _ _).1 = _
            rw [sD_b]
            show sI _ (.var (nat_lit 819291)) + sI _ (.natCast 1) = _
            rw [uM1, sI_c, ← Int32.ofNat_add]
          generalize hr3 : eOf 69 (uM r2 [Int32.ofNat fi, Int32.ofNat f]) m = r3 at hkp3 e0 e1 e2
          simp only [List.map_cons, List.map_nil, Option.map_some, sVal, sI_c, eF, eM]
          have hpl : ∀ i, i < 5 → r3.1 (mP 39 1 + i) = if i + 1 = la then Int32.ofNat (v + 1) else r2.1 (mP 39 1 + i) := fun i hi => by
            split
            · next h => rw [show mP 39 1 + i = 4096 * (69 + 39) + la by unfold mP; omega]; exact e1
            · next h =>
              have := kpR hkp3 (vM_r.2.2.2 (1 + i) (by omega)).1 ⟨by first | omega | (unfold mP; omega), by first | omega | (unfold mP; omega), by first | omega | (unfold mP; omega), trivial⟩
              rw [show mP 39 1 + i = mP 39 (1 + i) by unfold mP; omega]
              exact this
          have hsl : ∀ i, i < 5 → r3.1 (mP 16 1 + i) = if i = v then Int32.ofNat 1 else r2.1 (mP 16 1 + i) := fun i hi => by
            split
            · next h => rw [show mP 16 1 + i = 4096 * (69 + 16) + Nat.succ v by unfold mP; omega]; exact e0
            · next h =>
              have := kpR hkp3 (vM_r.2.2.2 (1 + i) (by omega)).2.2 ⟨by first | omega | (unfold mP; omega), by first | omega | (unfold mP; omega), by first | omega | (unfold mP; omega), trivial⟩
              rw [show mP 16 1 + i = mP 16 (1 + i) by unfold mP; omega]
              exact this
          refine wkL hLD (ih (q + 1) r3 s1 (f + 1) W2 (if f = 0 then v + 1 else fi) (v + 1) (by omega) (by omega) (by omega) (kpC_trans hkp (cRg_w hkp3 ⟨⟨282666, 282666, by simp [CHC], by omega, by omega⟩, ⟨348160, 348165, by simp [CHC], by omega, by omega⟩, ⟨442368, 442373, by simp [CHC], by omega, by omega⟩, trivial⟩)) ⟨TMr_st hz hkp3 ⟨by first | omega | (unfold mP; omega), by first | omega | (unfold mP; omega), by first | omega | (unfold mP; omega), trivial⟩ ⟨by first | omega | (unfold mP; omega), by first | omega | (unfold mP; omega), by first | omega | (unfold mP; omega), trivial⟩ ⟨by first | omega | (unfold mP; omega), by first | omega | (unfold mP; omega), by first | omega | (unfold mP; omega), trivial⟩ (fun i hi => ⟨by first | omega | (unfold mP; omega), by first | omega | (unfold mP; omega), by first | omega | (unfold mP; omega), trivial⟩) t1, e2, MOp_st hkp3 (by omega) ⟨by first | omega | (unfold mP; omega), by first | omega | (unfold mP; omega), by first | omega | (unfold mP; omega), trivial⟩ (fun i hi => ⟨⟨by first | omega | (unfold mP; omega), by first | omega | (unfold mP; omega), by first | omega | (unfold mP; omega), trivial⟩, ⟨by first | omega | (unfold mP; omega), by first | omega | (unfold mP; omega), by first | omega | (unfold mP; omega), trivial⟩⟩) t3, (kpR hkp3 (vM_0 46 (by simp)) ⟨by first | omega | (unfold mP; omega), by first | omega | (unfold mP; omega), by first | omega | (unfold mP; omega), trivial⟩).trans t4, W5_st hkp3 (fun i hi => ⟨by first | omega | (unfold mP; omega), by first | omega | (unfold mP; omega), by first | omega | (unfold mP; omega), trivial⟩) t5, L5_st hkp3 (fun i hi => ⟨by first | omega | (unfold mP; omega), by first | omega | (unfold mP; omega), by first | omega | (unfold mP; omega), trivial⟩) t6⟩ (txGo_trans hgo (txGo_one hD)) hs1 hsn1 (by split <;> omega) (by omega) (fun i hi => ?_) (fun h => ?_))
          · have := hpl i hi
            split at this
            · exact le5_of (by omega) this
            · exact le5_st this (hpt i hi)
          · obtain ⟨w1, w2, w3, w4, w5, w6⟩ := hw1 h
            obtain ⟨x1, rfl, x3⟩ := hw2 h
            obtain ⟨y1, y2, y3, y4⟩ := sq_in hs (v := v + 1) (by omega) (by omega) x3
            refine ⟨x1, by rw [w2]; simp, ?_, y2.symm, fun i hi => ?_, fun i hi => ?_⟩
            · rw [hdC_app, w2]
              by_cases h0 : s = []
              · subst h0
                rfl
              · rw [if_neg h0, if_neg (fun h => h0 (List.eq_nil_of_length_eq_zero h))]
                exact w3
            · rw [hpl i hi, ← y4 (i + 1) (by omega) (by omega), w4]
              split
              · rfl
              · rw [w5 i hi]
            · rw [hsl i hi]
              by_cases hiv : i = v
              · subst hiv
                rw [if_pos rfl, if_pos (List.mem_append_right _ List.mem_cons_self)]
              · rw [if_neg hiv, w6 i hi]
                have : (i + 1 ∈ s ++ [v + 1]) ↔ i + 1 ∈ s := by
                  rw [List.mem_append, List.mem_singleton]
                  exact ⟨fun h => h.elim id (fun h => absurd h (by omega)), Or.inl⟩
                by_cases h2 : i + 1 ∈ s
                · rw [if_pos h2, if_pos (this.mpr h2)]
                · rw [if_neg h2, if_neg (fun h => h2 (this.mp h))]
        rcases (show w = 0 ∨ w = 1 by omega) with rfl | rfl
        · have hq : ∀ zz : Bool, ∃ ovs, (∀ q ∈ ovs, (uM r2 [Int32.ofNat fi, Int32.ofNat f]).1 (4096 * (69 + q.1) + q.2.1) = sI (uM r2 [Int32.ofNat fi, Int32.ofNat f]) q.2.2) ∧ cyBd ovs zz la v = true := fun zz => ⟨_, oM_cons (uMc (by decide) t1.2.2.1) oM_nil, allL_ok (allL_ok (q_cyS zz) la (by omega)) v hv5⟩
          by_cases hwr : n < v + 1 ∨ v + 1 ∈ s
          · refine go hq s (txW W1 O q) ?_ hs hsn (fun h => nomatch h)
            show tx2 n _ (B q) q = _
            unfold tx2
            rw [if_pos hfig, hv1, if_pos hwr]
          · have hv2 : v + 1 ∉ s := fun h => hwr (Or.inr h)
            refine go hq (s ++ [v + 1]) W1 ?_ (sq_in hs (v := v + 1) (by omega) (by omega) hv2).1 (fun a ha => ?_) (fun h => nomatch h)
            · show tx2 n _ (B q) q = _
              unfold tx2
              rw [if_pos hfig, hv1, if_neg hwr]
            · rcases List.mem_append.mp ha with ha | ha
              · exact hsn a ha
              · rw [List.mem_singleton.mp ha]
                exact Nat.le_of_not_lt (fun h => hwr (Or.inl h))
        · obtain ⟨rfl, w2, w3, w4, w5, w6⟩ := hw1 rfl
          by_cases hwr : n < v + 1 ∨ v + 1 ∈ s
          · have hbd : ∀ r3, WHM r3 ((4, q) :: O) → W5 r3 0 → L5 r3 → txBd n z 1 B (2, O, M, [], 0, W) p r3 := fun r3 h3 g5 g6 => ⟨g5, g6, q, _, hgo, hqz, (by show O.length ≤ 80; omega), Or.inr ⟨rfl, hq2, rfl, (2, O, M, s, f + 1, txW none O q), by
              show tx2 n _ (B q) q = _
              unfold tx2
              rw [if_pos hfig, hv1, if_pos hwr], rfl, h3⟩⟩
            have hwc : ∃ ovs, (∀ q ∈ ovs, (uM r2 [Int32.ofNat fi, Int32.ofNat f]).1 (4096 * (69 + q.1) + q.2.1) = sI (uM r2 [Int32.ofNat fi, Int32.ofNat f]) q.2.2) ∧ cyBx ovs la v = true := by
              by_cases hvn : v + 1 ≤ n
              · have hvs : v + 1 ∈ s := by
                  rcases hwr with h | h
                  · omega
                  · exact h
                have hsee : r2.1 (mP 16 (Nat.succ v)) = Int32.ofNat 1 := by
                  have := w6 v hv5
                  rw [if_pos hvs] at this
                  rw [← this]
                  exact congrArg r2.1 (by unfold mP; omega)
                exact ⟨_, oM_cons (uMc (by decide) t1.2.2.1) (oM_cons (uMc (by decide) t1.1) (oM_cons (uMc (by unfold mP; omega) hsee) oM_nil)), allL_ok (allL_ok (allL_ok q_cyU n (by omega)) v (by omega)) la (by omega)⟩
              · have h := allL_ok (allL_ok (allL_ok q_cyV n (by omega)) v hv5) la (by omega)
                rw [Bool.or_eq_true] at h
                rcases h with h | h
                · exact absurd (Nat.le_of_ble_eq_true h) hvn
                · exact ⟨_, oM_cons (uMc (by decide) t1.2.2.1) (oM_cons (uMc (by decide) t1.1) oM_nil), h⟩
            obtain ⟨ovs, ho1, ho2⟩ := hwc
            have g := g_segV hFC (r := r2) (vs := [Int32.ofNat fi, Int32.ofNat f]) (al := al) (cy := cy) (rest := rest) (by omega) tMv_ok cC_M sPa_nil ho1 ho2 (fun pc L st pa hk1 hp1 => ?_) (fun v pa hk1 => nomatch hk1)
            · rw [LCk_eq] at g
              simp only [List.map_cons, List.map_nil, sVal, sI_c] at g
              exact g
            obtain ⟨rfl, rfl, rfl⟩ := kAt_ok hk1
            simp only [List.map_cons, List.map_nil, sVal, sI_c, sat]
            exact fail 85 88 4 q r2 _ (Or.inl ⟨rfl, rfl⟩) (by simp [LCx]) hkp t3 t5 t6 hqz hbd
          · have hv2 : v + 1 ∉ s := fun h => hwr (Or.inr h)
            have hvn : v + 1 ≤ n := Nat.le_of_not_lt (fun h => hwr (Or.inl h))
            have hsee : r2.1 (mP 16 (Nat.succ v)) = Int32.ofNat 0 := by
              have := w6 v hv5
              rw [if_neg hv2] at this
              rw [← this]
              exact congrArg r2.1 (by unfold mP; omega)
            refine go (fun zz => ⟨_, oM_cons (uMc (by decide) t1.2.2.1) (oM_cons (uMc (by decide) t1.1) (oM_cons (uMc (by unfold mP; omega) hsee) oM_nil)), allL_ok (allL_ok (allL_ok (q_cyW zz) n (by omega)) v (by omega)) la (by omega)⟩) (s ++ [v + 1]) none ?_ (sq_in hs (v := v + 1) (by omega) (by omega) hv2).1 (fun a ha => ?_) (fun _ => ⟨rfl, rfl, hv2⟩)
            · show tx2 n _ (B q) q = _
              unfold tx2
              rw [if_pos hfig, hv1, if_neg hwr]
            · rcases List.mem_append.mp ha with ha | ha
              · exact hsn a ha
              · rw [List.mem_singleton.mp ha]
                exact hvn
      · rw [hF]
        exact noFig hfig
  have g := g_segU hFC (r := r) (vs := []) (al := al) (cy := cy) (rest := rest) (by omega) tMv_ok cC_M sPa_nil oM_nil q_cy0 (fun m0 pc L st pa m hk2 hp2 hkp0 => ?_) (fun m0 v pa m1 hk2 => nomatch hk2)
  · exact g
  rw [Bool.and_eq_true] at hk2
  obtain ⟨rfl, rfl, rfl⟩ := kAt_ok hk2.1
  have hkp : kpC (cRg [(442369, 442373), (348161, 348165)]) 69 45 tMv r _ := hkp0
  have e1 : ∀ i, i < 5 → (eOf 69 (uM r []) m).1 (mP 39 1 + i) = Int32.ofNat (i + 1) ∧ (eOf 69 (uM r []) m).1 (mP 16 1 + i) = Int32.ofNat 0 := fun i hi => by
    have g := allL_ok hk2.2 i hi
    rw [Bool.and_eq_true] at g
    rw [show mP 39 1 + i = 4096 * (69 + 39) + Nat.succ i by unfold mP; omega, show mP 16 1 + i = 4096 * (69 + 16) + Nat.succ i by unfold mP; omega]
    exact ⟨eU_c (by first | decide | omega) g.1, eU_c (by first | decide | omega) g.2⟩
  generalize eOf 69 (uM r []) m = r2 at hkp e1
  simp only [List.map_cons, List.map_nil, Option.map_some, sVal, sI_c]
  refine wkL hLD (loop (z - p) p r2 [] 0 W 0 0 (by omega) (Nat.le_refl _) (Nat.zero_le _) (cRg_w hkp ⟨⟨442368, 442373, by simp [CHC], by omega, by omega⟩, ⟨348160, 348165, by simp [CHC], by omega, by omega⟩, trivial⟩) ?_ txGo_rfl List.mem_cons_self (fun a ha => nomatch ha) (by omega) (by omega) (fun i hi => le5_of (show i + 1 ≤ 5 by omega) (e1 i hi).1) (fun q => ⟨hW q, rfl, rfl, rfl, fun i hi => (e1 i hi).1, fun i hi => (e1 i hi).2.trans (by rw [if_neg (fun h => nomatch h)])⟩))
  obtain ⟨s1, s2, s3, s4, s5, s6⟩ := hS
  exact ⟨TMr_st hz hkp ⟨by first | omega | (unfold mP; omega), by first | omega | (unfold mP; omega), trivial⟩ ⟨by first | omega | (unfold mP; omega), by first | omega | (unfold mP; omega), trivial⟩ ⟨by first | omega | (unfold mP; omega), by first | omega | (unfold mP; omega), trivial⟩ (fun i hi => ⟨by first | omega | (unfold mP; omega), by first | omega | (unfold mP; omega), trivial⟩) s1, (kpR hkp (vM_0 42 (by simp)) ⟨by first | omega | (unfold mP; omega), by first | omega | (unfold mP; omega), trivial⟩).trans s2, MOp_st hkp (by omega) ⟨by first | omega | (unfold mP; omega), by first | omega | (unfold mP; omega), trivial⟩ (fun i hi => ⟨⟨by first | omega | (unfold mP; omega), by first | omega | (unfold mP; omega), trivial⟩, ⟨by first | omega | (unfold mP; omega), by first | omega | (unfold mP; omega), trivial⟩⟩) s3, (kpR hkp (vM_0 46 (by simp)) ⟨by first | omega | (unfold mP; omega), by first | omega | (unfold mP; omega), trivial⟩).trans s4, W5_st hkp (fun i hi => ⟨by first | omega | (unfold mP; omega), by first | omega | (unfold mP; omega), trivial⟩) s5, L5_st hkp (fun i hi => ⟨by first | omega | (unfold mP; omega), by first | omega | (unfold mP; omega), trivial⟩) s6⟩
end RC
