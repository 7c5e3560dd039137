/-! 98z: read: workOut (by wip/whole/mk98z.py) -/
noncomputable def LWo (p : Nat) : sL := [some (.inr (.inr (some (nat_lit 49)))), some (.inr (.inr (some (nat_lit 48)))), some (.inl (.var (nat_lit 819291))), some (.inl (.var (nat_lit 819290))), some (.inl (.natCast p))]
noncomputable def LWv : sL := [some (.inr (.inr (some (nat_lit 49)))), some (.inr (.inr (some (nat_lit 48)))), some (.inl (.var (nat_lit 819291))), some (.inl (.var (nat_lit 819290))), some (.inl (.var (nat_lit 819292)))]
theorem q_woE : sEnt [.inr (.inr (some (nat_lit 49))), .inr (.inr (some (nat_lit 48))), .inl (.var (nat_lit 819291)), .inl (.var (nat_lit 819290))] (PG (nat_lit 26)).2.1 (fun L => eqL eqO L [some (.inr (.inr (some (nat_lit 49)))), some (.inr (.inr (some (nat_lit 48)))), some (.inl (.var (nat_lit 819291))), some (.inl (.var (nat_lit 819290))), none]) = true := by decide +kernel
theorem q_woA : sBeg (nat_lit 0) (nat_lit 68) tXv (memB [(nat_lit 49), (nat_lit 53), (nat_lit 56)]) [] (fun m0 => sx PG (nat_lit 2000) (nat_lit 21) (PG (nat_lit 26)) (fun pc => memB [(nat_lit 8)] pc) (fun pc L st _ m => Bool.and (sKC (cRg [((nat_lit 200707), (nat_lit 200710)), ((nat_lit 217088), (nat_lit 217088)), ((nat_lit 229376), (nat_lit 229376))]) (nat_lit 0) (nat_lit 68) tXv (memB [(nat_lit 49), (nat_lit 53), (nat_lit 56)]) m0 m) (Bool.and (kAt (nat_lit 8) (LWo (nat_lit 0)) [] pc L st) (Bool.and (isE m (nat_lit 49) (nat_lit 5) (.var (nat_lit 819290))) (Bool.and (isE m (nat_lit 49) (nat_lit 6) (.natCast (nat_lit 0))) (Bool.and (isE m (nat_lit 53) (nat_lit 0) (.natCast (nat_lit 0))) (Bool.and (isE m (nat_lit 49) (nat_lit 3) (.natCast (nat_lit 0))) (Bool.and (isE m (nat_lit 56) (nat_lit 0) (.natCast (nat_lit 344865))) (isE m (nat_lit 49) (nat_lit 4) (.natCast (nat_lit 0)))))))))) (fun v _ m => Bool.and (sKC (cRg [((nat_lit 200707), (nat_lit 200710)), ((nat_lit 217088), (nat_lit 217088)), ((nat_lit 229376), (nat_lit 229376))]) (nat_lit 0) (nat_lit 68) tXv (memB [(nat_lit 49), (nat_lit 53), (nat_lit 56)]) m0 m) false) (nat_lit 0) [some (.inr (.inr (some (nat_lit 49)))), some (.inr (.inr (some (nat_lit 48)))), some (.inl (.var (nat_lit 819291))), some (.inl (.var (nat_lit 819290))), none] [] [] m0) = true := by decide +kernel
theorem q_woB : allL 80 (fun p => sBeg (nat_lit 0) (nat_lit 68) tXv (memB [(nat_lit 48), (nat_lit 49)]) [] (fun m0 => sx PG (nat_lit 500) (nat_lit 21) (PG (nat_lit 26)) (fun pc => memB [(nat_lit 21), (nat_lit 40)] pc) (fun pc L st _ m => Bool.and (eqL eqC m m0) (kAt (nat_lit 21) (LWo p) [.inl (.natCast p), .inl (.var (Nat.add (nat_lit 196608) p)), .inr (.inr (some (nat_lit 49)))] pc L st)) (fun v _ m => Bool.and (eqL eqC m m0) false) (nat_lit 8) (LWo p) [] [(false, true, .natCast p, (.var (nat_lit 819291)))] m0)) = true := by decide +kernel
theorem q_woC : allL 81 (fun p => sBeg (nat_lit 0) (nat_lit 68) tXv (memB [(nat_lit 48), (nat_lit 49)]) [] (fun m0 => sx PG (nat_lit 500) (nat_lit 21) (PG (nat_lit 26)) (fun pc => memB [(nat_lit 21), (nat_lit 40)] pc) (fun pc L st _ m => Bool.and (eqL eqC m m0) (kAt (nat_lit 40) (LWo p) [] pc L st)) (fun v _ m => Bool.and (eqL eqC m m0) false) (nat_lit 8) (LWo p) [] [(false, false, .natCast p, (.var (nat_lit 819291)))] m0)) = true := by decide +kernel
theorem q_woD : allL 81 (fun p => sx PG (nat_lit 20) (nat_lit 21) (PG (nat_lit 26)) (fun pc => Nat.beq pc (nat_lit 8)) (fun pc L st _ m => Bool.and (eqL eqC m []) (kAt (nat_lit 8) (LWo (Nat.succ p)) [] pc L st)) (fun _ _ m => Bool.and (eqL eqC m []) false) (nat_lit 24) (LWo p) [.inl (.natCast (nat_lit 1))] [] []) = true := by decide +kernel
theorem q_woF : allL 81 (fun p => sx PG (nat_lit 20) (nat_lit 21) (PG (nat_lit 26)) (fun pc => Nat.beq pc (nat_lit 30)) (fun pc L st _ m => Bool.and (eqL eqC m []) (kAt (nat_lit 30) (LWo p) [.inl (.natCast p), .inr (.inr (some (nat_lit 49)))] pc L st)) (fun _ _ m => Bool.and (eqL eqC m []) false) (nat_lit 24) (LWo p) [.inl (.natCast (nat_lit 0))] [] []) = true := by decide +kernel
theorem q_woR : sx PG (nat_lit 20) (nat_lit 21) (PG (nat_lit 26)) (fun _ => false) (fun _ _ _ _ _ => false) (fun v0 _ m => Bool.and (eqL eqC m []) (eqO v0 (some (.inl (.var (nat_lit 819293)))))) (nat_lit 33) LWv [.inl (.var (nat_lit 819293))] [] [] = true := by decide +kernel
theorem q_woS : sx PG (nat_lit 20) (nat_lit 21) (PG (nat_lit 26)) (fun _ => false) (fun _ _ _ _ _ => false) (fun v0 _ m => Bool.and (eqL eqC m []) (eqO v0 (some (.inl (.var (nat_lit 819293)))))) (nat_lit 60) LWv [.inl (.var (nat_lit 819293))] [] [] = true := by decide +kernel
noncomputable def woG (a b : Nat) : Bool := sBeg (nat_lit 0) (nat_lit 68) tXv (memB [(nat_lit 49), (nat_lit 56)]) [((nat_lit 49), (nat_lit 4), (.natCast a)), ((nat_lit 49), (nat_lit 3), (.natCast b))] (fun m0 => sx PG (nat_lit 500) (nat_lit 21) (PG (nat_lit 26)) (fun pc => memB [(nat_lit 57)] pc) (fun pc L st _ m => Bool.and (eqL eqC m m0) (kAt (nat_lit 57) LWv [.inl (.var (nat_lit 819291)), .inr (.inr (some (nat_lit 49)))] pc L st)) (fun v _ m => Bool.and (eqL eqC m m0) false) (nat_lit 40) LWv [] [] m0)
theorem q_woG : allL 4 (fun a => allL 4 (fun b => Bool.or (Bool.and (Nat.beq a (nat_lit 3)) (Nat.beq b (nat_lit 0))) (woG a b))) = true := by decide +kernel
theorem q_woW : sBeg (nat_lit 0) (nat_lit 68) tXv (memB [(nat_lit 49), (nat_lit 56)]) [((nat_lit 49), (nat_lit 4), (.natCast (nat_lit 3))), ((nat_lit 49), (nat_lit 3), (.natCast (nat_lit 0))), ((nat_lit 49), (nat_lit 6), (.natCast (nat_lit 1)))] (fun m0 => sx PG (nat_lit 500) (nat_lit 21) (PG (nat_lit 26)) (fun pc => memB [(nat_lit 57)] pc) (fun pc L st _ m => Bool.and (eqL eqC m m0) false) (fun v _ m => Bool.and (eqL eqC m m0) (eqO v (some (.inl (.natCast (nat_lit 4294967294)))))) (nat_lit 40) LWv [] [] m0) = true := by decide +kernel
theorem q_woO : sBeg (nat_lit 0) (nat_lit 68) tXv (memB [(nat_lit 49), (nat_lit 56)]) [((nat_lit 49), (nat_lit 4), (.natCast (nat_lit 3))), ((nat_lit 49), (nat_lit 3), (.natCast (nat_lit 0))), ((nat_lit 49), (nat_lit 6), (.natCast (nat_lit 0)))] (fun m0 => sx PG (nat_lit 500) (nat_lit 21) (PG (nat_lit 26)) (fun pc => memB [(nat_lit 57)] pc) (fun pc L st _ m => Bool.and (eqL eqC m m0) false) (fun v _ m => Bool.and (eqL eqC m m0) (eqO v (some (.inl (.var (nat_lit 229376)))))) (nat_lit 40) LWv [] [] m0) = true := by decide +kernel
theorem uM3 {r : sE} {a b c x : Int32} {l : List Int32} : sI (uM r (a :: b :: c :: x :: l)) (.var (nat_lit 819293)) = x := by
  rw [sI_v]
  exact uM_v 3
section RZ
variable {D : va_G} {cy : Nat → ClassId} {al : Nat → Nat} {rest : va_W}
theorem c_step (l : Launch) {r0 r : sE} {n p b : Nat} {σ : txS} (hn : 1 ≤ n) (hn5 : n ≤ 5) (hp : p < 80) (hb : b < 127) (hX : XS n p r0 r σ) : gMet l D cy al 20 31 (tW r al cy rest 68 tXv) [.ref (al 49), .int (Int32.ofNat b), .int (Int32.ofNat p)] (fun v w => isB v ∧ ∃ r1, w = tW r1 al cy rest 68 tXv ∧ XR n p r0 σ b v r1) := by
  obtain ⟨aw, O, M, s, f, W⟩ := σ
  have h4 : r.1 (xP 49 4) = Int32.ofNat aw := hX.1.1
  have haw : aw < 4 := hX.1.2.2
  refine c_with l h4 haw ?_
  match aw, haw with
  | 0, _ => exact (c_st0 l hn hn5 hp hb hX).mono (fun v w h => ⟨h.1, h⟩)
  | 1, _ => exact (c_st1 l hn hn5 hp hb hX).mono (fun v w h => ⟨h.1, h⟩)
  | 2, _ => exact (c_st2 l hn hn5 hp hb hX).mono (fun v w h => ⟨h.1, h⟩)
  | 3, _ => exact (c_st3 l hn hn5 hp hb hX).mono (fun v w h => ⟨h.1, h⟩)
noncomputable def tx00 : txS := (0, [], [txI], [], 0, none)
/-- what reading gives, class -/
def wkP (n : Nat) (B : Nat → Nat) (z : Nat) (r0 : sE) (v : Option Value) (r1 : sE) : Prop := kpC (cRg CHB) 0 68 tXv r0 r1 ∧ ((∃ q σ, txGo n B tx00 0 σ q ∧ txBad n B z σ q ∧ σ.2.1.length ≤ 80 ∧ v = some (.int (faV q)) ∧ WHX r1 ((1, q) :: σ.2.1)) ∨ ∃ σ m, txGo n B tx00 0 σ z ∧ σ.1 = 3 ∧ σ.2.2.1 = [m] ∧ m ∈ ordN n ∧ ((σ.2.2.2.2.2 = none ∧ v = some (.int (Int32.ofNat (ocode m))) ∧ ∀ u, whyP u → r1.1 u = r0.1 u) ∨ ∃ T, σ.2.2.2.2.2 = some T ∧ T.length ≤ 81 ∧ v = some (.int (Int32.ofNat 4294967294)) ∧ WHX r1 T))
theorem LWo_eq {r : sE} {p : Nat} {a b : Int32} {vs : List Int32} : (LWo p).map (Option.map (sVal (uM r (a :: b :: vs)) al)) = [some (.ref (al 49)), some (.ref (al 48)), some (.int b), some (.int a), some (.int (Int32.ofNat p))] := by
  simp only [LWo, List.map_cons, List.map_nil, Option.map_some, sVal, uM0, uM1, sI_c]
theorem LWv_eq {r : sE} {a b c : Int32} {vs : List Int32} : LWv.map (Option.map (sVal (uM r (a :: b :: c :: vs)) al)) = [some (.ref (al 49)), some (.ref (al 48)), some (.int b), some (.int a), some (.int c)] := by
  simp only [LWv, List.map_cons, List.map_nil, Option.map_some, sVal, uM0, uM1, uM2]
theorem lt80 {a b : Nat} (ha : a ≤ 81) (hb : b ≤ 81) : Int32.ofNat a < Int32.ofNat b ↔ a < b := by
  rw [Int32.lt_iff_toInt_lt]
  simp only [Int32.toInt_ofNat', Int.bmod_def, show ((Int32.size : Nat) : Int) = 4294967296 from rfl]
  omega
theorem c_wkX (l : Launch) {r0 : sE} {n z d : Nat} {B : Nat → Nat} (hd : 21 ≤ d) (hn : 1 ≤ n) (hn5 : n ≤ 5) (hz : z ≤ 80) (hB : ∀ i, i < z → r0.1 (xP 48 i) = Int32.ofNat (B i) ∧ B i < 127) : gMet l D cy al d 26 (tW r0 al cy rest 68 tXv) [.ref (al 49), .ref (al 48), .int (Int32.ofNat z), .int (Int32.ofNat n)] (fun v w => (∃ x, v = some (.int x)) ∧ ∃ r1, w = tW r1 al cy rest 68 tXv ∧ wkP n B z r0 v r1) := by
  refine gMet_up hd ?_
  have key := gMet_of (l := l) (D := D) (cy := cy) (al := al) (d := 21) (k := 26) (w := tW r0 al cy rest 68 tXv) (r := uM r0 [Int32.ofNat n, Int32.ofNat z]) (G := fun v w => (∃ x, v = some (.int x)) ∧ ∃ r1, w = tW r1 al cy rest 68 tXv ∧ wkP n B z r0 v r1) q_woE (fun At hFC => ?_)
  · simp only [List.map_cons, List.map_nil, sVal, uM0, uM1] at key
    exact key
  have fault : ∀ (pc nx p : Nat) (r : sE) (σ : txS), (pc = 30 ∧ nx = 33) ∨ (pc = 57 ∧ nx = 60) → XS n p r0 r σ → p ≤ z → txGo n B tx00 0 σ p → txBad n B z σ p → At pc ((LWo p).map (Option.map (sVal (uM r0 [Int32.ofNat n, Int32.ofNat z]) al))) [.int (Int32.ofNat p), .ref (al 49)] (tW r al cy rest 68 tXv) := fun pc nx p r σ hpc hX hp hg hbad => by
    have hrow : gRow 26 pc nx 28 := by
      rcases hpc with ⟨rfl, rfl⟩ | ⟨rfl, rfl⟩
      · exact ⟨_, _, rfl, rfl⟩
      · exact ⟨_, _, rfl, rfl⟩
    have hlen := hX.2.1.2.2.1
    refine hFC.2 pc nx 28 20 _ [.ref (al 49), .int (Int32.ofNat p)] [] _ _ hrow rfl (by decide) rfl (gRecv_x (j := 49) (show 49 < 68 by omega) rfl rfl) (c_fault l (by omega) hX.2.1.1 (by omega)) (fun v1 w2 h => ?_)
    obtain ⟨rfl, r1, k1, k2, rfl⟩ := h
    have hG : (fun v w => (∃ x, v = some (.int x)) ∧ ∃ r1, w = tW r1 al cy rest 68 tXv ∧ wkP n B z r0 v r1) (some (.int (faV p))) (tW r1 al cy rest 68 tXv) := ⟨⟨_, rfl⟩, r1, rfl, kpC_trans hX.2.2.2.2.2 (CHB_w k1 ⟨⟨by omega, by omega⟩, trivial⟩), Or.inl ⟨p, σ, hg, hbad, by omega, rfl, k2⟩⟩
    have hv : ∀ v0 : Option sV, eqO v0 (some (.inl (.var (nat_lit 819293)))) = true → v0.map (sVal (uM r0 [Int32.ofNat n, Int32.ofNat z, Int32.ofNat p, faV p]) al) = some (.int (faV p)) := fun v0 h0 => by
      rw [eqO_ok h0]
      show some (Value.int (sI _ _)) = _
      rw [uM3]
    have fin : ∀ {q : Nat}, sx PG (nat_lit 20) (nat_lit 21) (PG (nat_lit 26)) (fun _ => false) (fun _ _ _ _ _ => false) (fun v0 _ m => Bool.and (eqL eqC m []) (eqO v0 (some (.inl (.var (nat_lit 819293)))))) q LWv [.inl (.var (nat_lit 819293))] [] [] = true → At q ((LWo p).map (Option.map (sVal (uM r0 [Int32.ofNat n, Int32.ofNat z]) al))) [.int (faV p)] (tW r1 al cy rest 68 tXv) := fun {q} hq => by
      have g := g_ret (v := some (.int (faV p))) hFC (r := uM r0 [Int32.ofNat n, Int32.ofNat z, Int32.ofNat p, faV p]) (w := tW r1 al cy rest 68 tXv) hq hv hG
      rw [LWv_eq] at g
      rw [LWo_eq]
      simp only [List.map_cons, List.map_nil, sVal, uM3] at g
      exact g
    rcases hpc with ⟨-, rfl⟩ | ⟨-, rfl⟩
    · exact fin q_woR
    · exact fin q_woS
  have loop : ∀ (m p : Nat) (r : sE) (σ : txS), p + m = z → XS n p r0 r σ → txGo n B tx00 0 σ p → At 8 ((LWo p).map (Option.map (sVal (uM r0 [Int32.ofNat n, Int32.ofNat z]) al))) [] (tW r al cy rest 68 tXv) := by
    intro m
    induction m with
    | zero =>
      intro p r σ hpm hX hg
      obtain rfl : p = z := by omega
      have hkp := hX.2.2.2.2.2
      have g := g_segV hFC (r := r) (vs := [Int32.ofNat n, Int32.ofNat p]) (al := al) (cy := cy) (rest := rest) (by omega) tXv_ok cC_X (sPa_cons.mpr ⟨(sKd_f (e := false)).mpr (fun h => by
        have h2 : sI _ (.natCast p) < sI _ (.var (nat_lit 819291)) := h
        rw [uM1, sI_c, lt80 (by omega) (by omega)] at h2
        omega), sPa_nil⟩) oX_nil (allL_ok q_woC p (by omega)) (fun pc L st pa hk1 hp1 => ?_) (fun v pa hk1 => nomatch hk1)
      · rw [LWo_eq] at g ⊢
        exact g
      obtain ⟨rfl, rfl, rfl⟩ := kAt_ok hk1
      obtain ⟨aw, O, M, s, f, W⟩ := σ
      obtain ⟨⟨a1, a2, a3⟩, ⟨b1, b2, b3, b4, b5⟩, c1, d1, ⟨e1, e2, e3⟩, f1⟩ := id hX
      replace a1 : r.1 (xP 49 4) = Int32.ofNat aw := a1
      replace a3 : aw < 4 := a3
      replace c1 : XM n r M := c1
      have eL : (LWo p).map (Option.map (sVal (uM r [Int32.ofNat n, Int32.ofNat p]) al)) = LWv.map (Option.map (sVal (uM r [Int32.ofNat n, Int32.ofNat p, Int32.ofNat p]) al)) := by rw [LWo_eq, LWv_eq]
      have eL2 : (LWo p).map (Option.map (sVal (uM r0 [Int32.ofNat n, Int32.ofNat p]) al)) = LWv.map (Option.map (sVal (uM r [Int32.ofNat n, Int32.ofNat p, Int32.ofNat p]) al)) := by rw [LWo_eq, LWv_eq]
      rw [eL, List.map_nil]
      by_cases hok : aw = 3 ∧ M.length = 1
      · obtain ⟨rfl, hl⟩ := hok
        obtain ⟨m0, rfl⟩ : ∃ m0, M = [m0] := List.length_eq_one_iff.mp hl
        have hm0 : m0 ∈ ordN n := c1.2.1 m0 List.mem_cons_self
        have h0 : r.1 (xP 49 3) = Int32.ofNat 0 := c1.2.2.1
        cases W with
        | none =>
          have e1' : r.1 (xP 49 6) = Int32.ofNat 0 := e1
          have g := g_segV hFC (r := r) (vs := [Int32.ofNat n, Int32.ofNat p, Int32.ofNat p]) (al := al) (cy := cy) (rest := rest) (by omega) tXv_ok cC_X sPa_nil (oX_cons (uMc (by decide) a1) (oX_cons (uMc (by decide) h0) (oX_cons (uMc (by decide) e1') oX_nil))) q_woO (fun pc L st pa hk1 => nomatch hk1) (fun v pa hk1 hp1 => ?_)
          · rw [List.map_nil] at g
            exact g
          have hv : v.map (sVal (uM r [Int32.ofNat n, Int32.ofNat p, Int32.ofNat p]) al) = some (.int (Int32.ofNat (ocode m0))) := by
            rw [eqO_ok hk1]
            show some (Value.int (sI _ _)) = _
            rw [uMv (by decide), show r.1 229376 = Int32.ofNat (ocode m0) from c1.2.2.2.1]
          exact ⟨⟨_, hv⟩, r, rfl, f1, Or.inr ⟨_, m0, hg, rfl, rfl, hm0, Or.inl ⟨rfl, hv, e3 rfl⟩⟩⟩
        | some T =>
          have e1' : r.1 (xP 49 6) = Int32.ofNat 1 := e1.1
          have g := g_segV hFC (r := r) (vs := [Int32.ofNat n, Int32.ofNat p, Int32.ofNat p]) (al := al) (cy := cy) (rest := rest) (by omega) tXv_ok cC_X sPa_nil (oX_cons (uMc (by decide) a1) (oX_cons (uMc (by decide) h0) (oX_cons (uMc (by decide) e1') oX_nil))) q_woW (fun pc L st pa hk1 => nomatch hk1) (fun v pa hk1 hp1 => ?_)
          · rw [List.map_nil] at g
            exact g
          exact ⟨⟨_, vI_ok hk1⟩, r, rfl, f1, Or.inr ⟨_, m0, hg, rfl, rfl, hm0, Or.inr ⟨T, rfl, e2 T rfl, vI_ok hk1, e1.2⟩⟩⟩
      · have hq : woG aw (M.length - 1) = true := by
          have h := allL_ok (allL_ok q_woG aw a3) (M.length - 1) (by have := c1.1; omega)
          rw [Bool.or_eq_true, Bool.and_eq_true] at h
          rcases h with ⟨h1, h2⟩ | h
          · exact absurd ⟨Nat.eq_of_beq_eq_true h1, by have h9 : M.length - 1 = 0 := Nat.eq_of_beq_eq_true h2; have := c1.1.1; omega⟩ hok
          · exact h
        have g := g_segV hFC (r := r) (vs := [Int32.ofNat n, Int32.ofNat p, Int32.ofNat p]) (al := al) (cy := cy) (rest := rest) (by omega) tXv_ok cC_X sPa_nil (oX_cons (uMc (by decide) a1) (oX_cons (uMc (by decide) c1.2.2.1) oX_nil)) hq (fun pc L st pa hk1 hp1 => ?_) (fun v pa hk1 => nomatch hk1)
        · rw [List.map_nil] at g
          exact g
        obtain ⟨rfl, rfl, rfl⟩ := kAt_ok hk1
        have es : List.map (sVal (uM r [Int32.ofNat n, Int32.ofNat p, Int32.ofNat p]) al) [.inl (.var (nat_lit 819291)), .inr (.inr (some (nat_lit 49)))] = [.int (Int32.ofNat p), .ref (al 49)] := by
          simp only [List.map_cons, List.map_nil, sVal]
          rw [uM1]
        rw [es, ← eL2]
        exact fault 57 60 p r _ (Or.inr ⟨rfl, rfl⟩) hX (Nat.le_refl _) hg ⟨Nat.le_refl _, Or.inl rfl, fun h => hok h.2⟩
    | succ m ih =>
      intro p r σ hpm hX hg
      have hpz : p < z := by omega
      have hkp := hX.2.2.2.2.2
      have hbr : r.1 (xP 48 p) = Int32.ofNat (B p) := (kpR hkp (vX_r 48 (by simp) p (by omega) (Or.inr (Or.inr (Or.inr ⟨rfl, by omega⟩)))) ⟨by first | omega | (unfold xP; omega), trivial⟩).trans (hB p hpz).1
      have hbr2 : r.1 (196608 + p) = Int32.ofNat (B p) := hbr
      have g := g_segV hFC (r := r) (vs := [Int32.ofNat n, Int32.ofNat z]) (al := al) (cy := cy) (rest := rest) (by omega) tXv_ok cC_X (sPa_cons.mpr ⟨(sKd_t (e := false)).mpr (by
        show sI _ (.natCast p) < sI _ (.var (nat_lit 819291))
        rw [uM1, sI_c, lt80 (by omega) (by omega)]
        exact hpz), sPa_nil⟩) oX_nil (allL_ok q_woB p (by omega)) (fun pc L st pa hk1 hp1 => ?_) (fun v pa hk1 => nomatch hk1)
      · rw [LWo_eq] at g ⊢
        exact g
      obtain ⟨rfl, rfl, rfl⟩ := kAt_ok hk1
      have es : List.map (sVal (uM r [Int32.ofNat n, Int32.ofNat z]) al) [.inl (.natCast p), .inl (.var (Nat.add (nat_lit 196608) p)), .inr (.inr (some (nat_lit 49)))] = ([.ref (al 49), .int (Int32.ofNat (B p)), .int (Int32.ofNat p)] : List Value).reverse ++ [] := by
        simp only [List.map_cons, List.map_nil, sVal, sI_c]
        rw [uMv (show Nat.add 196608 p < 819290 by show 196608 + p < 819290; omega), show Nat.add 196608 p = 196608 + p from rfl, hbr2]
        rfl
      rw [es]
      refine hFC.2 21 24 31 20 _ _ _ _ _ ⟨_, _, rfl, rfl⟩ rfl (by decide) rfl (gRecv_x (j := 49) (show 49 < 68 by omega) rfl rfl) (c_step l hn hn5 (by omega) (hB p hpz).2 hX) (fun v1 w2 h => ?_)
      obtain ⟨-, r1, rfl, h⟩ := h
      unfold XR at h
      cases hD : txD n σ (B p) p with
      | some σ1 =>
        rw [hD] at h
        obtain ⟨rfl, hX1⟩ := h
        have g2 := g_pure hFC (r := uM r [Int32.ofNat n, Int32.ofNat z]) (al := al) (w := tW r1 al cy rest 68 tXv) sPa_nil (allL_ok q_woD p (by omega)) (fun pc L st hk => ?_) (fun v hk => nomatch hk)
        · simp only [List.map_cons, List.map_nil, sVal, sI_c] at g2
          exact g2
        obtain ⟨rfl, rfl, rfl⟩ := kAt_ok hk
        have := ih (p + 1) r1 σ1 (by omega) hX1 (txGo_trans hg (txGo_one hD))
        rw [LWo_eq] at this
        rw [LWo_eq]
        exact this
      | none =>
        rw [hD] at h
        obtain ⟨rfl, hX1⟩ := h
        have g2 := g_pure hFC (r := uM r [Int32.ofNat n, Int32.ofNat z]) (al := al) (w := tW r1 al cy rest 68 tXv) sPa_nil (allL_ok q_woF p (by omega)) (fun pc L st hk => ?_) (fun v hk => nomatch hk)
        · simp only [List.map_cons, List.map_nil, sVal, sI_c] at g2
          exact g2
        obtain ⟨rfl, rfl, rfl⟩ := kAt_ok hk
        have := fault 30 33 p r1 σ (Or.inl ⟨rfl, rfl⟩) hX1 (by omega) hg ⟨by omega, Or.inr ⟨hpz, hD⟩, fun h => by omega⟩
        rw [LWo_eq] at this
        rw [LWo_eq]
        simp only [List.map_cons, List.map_nil, sVal, sI_c]
        exact this
  have g := g_segU hFC (r := r0) (vs := [Int32.ofNat n, Int32.ofNat z]) (al := al) (cy := cy) (rest := rest) (by omega) tXv_ok cC_X sPa_nil oX_nil q_woA (fun m0 pc L st pa m hk2 hp2 hkp0 => ?_) (fun m0 v pa m1 hk2 => nomatch hk2)
  · exact g
  simp only [Bool.and_eq_true] at hk2
  obtain ⟨k0, k1, k2, k3, k4, k5, k6⟩ := hk2
  obtain ⟨rfl, rfl, rfl⟩ := kAt_ok k0
  have hkp : kpC (cRg [(200707, 200710), (217088, 217088), (229376, 229376)]) 0 68 tXv r0 _ := hkp0
  have := loop z 0 _ tx00 (by omega) ⟨⟨eU_c (by first | decide | omega) k6, eU_0 (by first | decide | omega) k1, by decide⟩, ⟨⟨eU_c (by first | decide | omega) k3, trivial⟩, (fun x hx => nomatch hx), Nat.le_refl _, rfl, fun q => neQ (a := 0) (b := 3) rfl q⟩, ⟨⟨Nat.le_refl _, by decide⟩, fun x hx => ?_, eU_c (by first | decide | omega) k4, ⟨?_, trivial⟩⟩, fun q => neQ (a := 0) (b := 2) rfl q, ⟨eU_c (by first | decide | omega) k2, (fun T hT => nomatch hT), fun _ u hu => kpR hkp (vX_w hu) (by unfold whyP at hu; exact ⟨by first | omega | (unfold xP; omega), by first | omega | (unfold xP; omega), by first | omega | (unfold xP; omega), trivial⟩)⟩, CHB_w hkp ⟨⟨by omega, by omega⟩, ⟨by omega, by omega⟩, ⟨by omega, by omega⟩, trivial⟩⟩ txGo_rfl
  · rw [LWo_eq] at this
    rw [LWo_eq]
    exact this
  · rw [List.mem_singleton.mp hx]
    exact txI_in hn hn5
  · show (eOf _ _ _).1 (xP 56 0 + 0) = Int32.ofNat (ocode txI)
    rw [ocI]
    exact eU_c (by first | decide | omega) k5
end RZ
