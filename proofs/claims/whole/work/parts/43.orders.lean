/-! 43: contracts at any greater depth; expressions evaluated; the orders' own methods -/
theorem room_up {s : State} {pl : Platform} {r r2 : Room} (hf : r.frames ≤ r2.frames) (hl : r.locals ≤ r2.locals) (hc : r.cells ≤ r2.cells) (hs : r.slots ≤ r2.slots) (h : s.hasRoom pl r2 = true) : s.hasRoom pl r = true := by
  simp only [State.hasRoom, Bool.and_eq_true, decide_eq_true_eq] at h ⊢
  obtain ⟨⟨⟨⟨h1, h2, h3, h4, h5, h6⟩, h7⟩, h8⟩, h9⟩ := h
  exact ⟨⟨⟨⟨by omega, by omega, by omega, by omega, by omega, h6⟩, by omega⟩, by omega⟩, h9⟩
theorem Met.room {l : Launch} {y : MethodName} {ws : List Cond} {rm rm2 : Room} {Pc : Array Value → State → Prop} {Qc : Array Value → State → Outcome → State → Prop} {mc ms : Nat} {free : Addr → Prop} (hf : rm.frames ≤ rm2.frames) (hl : rm.locals ≤ rm2.locals) (hc : rm.cells ≤ rm2.cells) (hs : rm.slots ≤ rm2.slots) (h : Met l y ws rm Pc Qc mc ms free) : Met l y ws rm2 Pc Qc mc ms free := by
  intro p e h1 h2 h3 s m args below h4 h5 h6 h7
  refine h p e h1 h2 h3 s m args below h4 ?_ h6 h7
  unfold Spec.appliesLoose at h5 ⊢
  rw [h4] at h5 ⊢
  simp only [Bool.and_eq_true] at h5 ⊢
  exact ⟨⟨h5.1.1, room_up hf hl hc hs h5.1.2⟩, h5.2⟩
theorem gMet_up {l : Launch} {D : va_G} {cy : Nat → ClassId} {al : Nat → Nat} {d d2 k : Nat} {w : va_W} {as : List Value} {G : Option Value → va_W → Prop} (hd : d ≤ d2) (h : gMet l D cy al d k w as G) : gMet l D cy al d2 k w as G := fun sz => Met.room (by simp only [sRm]; omega) (by simp only [sRm]; omega) (by simp only [sRm]; omega) (by simp only [sRm]; omega) (h sz)
noncomputable def evOp (o a b : Nat) (k : Nat → Bool) : Bool := Bool.rec (motive := fun _ => Bool) (Bool.rec (motive := fun _ => Bool) (Bool.rec (motive := fun _ => Bool) (Bool.rec (motive := fun _ => Bool) (Bool.rec (motive := fun _ => Bool) (Bool.rec (motive := fun _ => Bool) (Bool.rec (motive := fun _ => Bool) (sIf (Nat.beq o (nat_lit 0)) (sFc (fAdd a b) k)) (sFc (fI (fun a b => a ^^^ b) a b) k) (Nat.beq o (nat_lit 5))) (sFc (fSub a b) k) (Nat.beq o (nat_lit 1))) (sFc (fMul a b) k) (Nat.beq o (nat_lit 2))) (sFc (fShl a b) k) (Nat.beq o (nat_lit 6))) (sFc (fOr a b) k) (Nat.beq o (nat_lit 4))) (sFc (fShr a b) k) (Nat.beq o (nat_lit 7))) (sFc (fAnd a b) k) (Nat.beq o (nat_lit 3))
theorem evOp_ok {o a b : Nat} {k : Nat → Bool} (h : evOp o a b k = true) : ∃ n, k n = true ∧ ∀ x y : Int32 × Int64, x.1 = Int32.ofNat a → y.1 = Int32.ofNat b → (sB o x y).1 = Int32.ofNat n := by
  unfold evOp at h
  cases h3 : Nat.beq o (nat_lit 3) with
  | true =>
    simp only [h3] at h
    rw [sFc_eq] at h
    have e : o = 3 := Nat.eq_of_beq_eq_true h3
    subst e
    exact ⟨_, h, fun x y hx hy => by show x.1 &&& y.1 = _; rw [hx, hy, fAnd_ok]⟩
  | false =>
  simp only [h3] at h
  cases h7 : Nat.beq o (nat_lit 7) with
  | true =>
    simp only [h7] at h
    rw [sFc_eq] at h
    have e : o = 7 := Nat.eq_of_beq_eq_true h7
    subst e
    exact ⟨_, h, fun x y hx hy => by show x.1 >>> (y.1 &&& 31) = _; rw [hx, hy, fShr_ok]⟩
  | false =>
  simp only [h7] at h
  cases h4 : Nat.beq o (nat_lit 4) with
  | true =>
    simp only [h4] at h
    rw [sFc_eq] at h
    have e : o = 4 := Nat.eq_of_beq_eq_true h4
    subst e
    exact ⟨_, h, fun x y hx hy => by show x.1 ||| y.1 = _; rw [hx, hy, fOr_ok]⟩
  | false =>
  simp only [h4] at h
  cases h6 : Nat.beq o (nat_lit 6) with
  | true =>
    simp only [h6] at h
    rw [sFc_eq] at h
    have e : o = 6 := Nat.eq_of_beq_eq_true h6
    subst e
    exact ⟨_, h, fun x y hx hy => by show x.1 <<< (y.1 &&& 31) = _; rw [hx, hy, fShl_ok]⟩
  | false =>
  simp only [h6] at h
  cases h2 : Nat.beq o (nat_lit 2) with
  | true =>
    simp only [h2] at h
    rw [sFc_eq] at h
    have e : o = 2 := Nat.eq_of_beq_eq_true h2
    subst e
    exact ⟨_, h, fun x y hx hy => by show x.1 * y.1 = _; rw [hx, hy, fMul_ok]⟩
  | false =>
  simp only [h2] at h
  cases h1 : Nat.beq o (nat_lit 1) with
  | true =>
    simp only [h1] at h
    rw [sFc_eq] at h
    have e : o = 1 := Nat.eq_of_beq_eq_true h1
    subst e
    exact ⟨_, h, fun x y hx hy => by show x.1 - y.1 = _; rw [hx, hy, fSub_ok]⟩
  | false =>
  simp only [h1] at h
  cases h5 : Nat.beq o (nat_lit 5) with
  | true =>
    simp only [h5] at h
    rw [sFc_eq] at h
    have e : o = 5 := Nat.eq_of_beq_eq_true h5
    subst e
    exact ⟨_, h, fun x y hx hy => by
      show x.1 ^^^ y.1 = _
      rw [hx, hy]
      unfold fI
      rw [fN_ok]⟩
  | false =>
  simp only [h5] at h
  obtain ⟨h0, h9⟩ := sIf_ok h
  rw [sFc_eq] at h9
  have e : o = 0 := Nat.eq_of_beq_eq_true h0
  subst e
  exact ⟨_, h9, fun x y hx hy => by show x.1 + y.1 = _; rw [hx, hy, fAdd_ok]⟩
/-- an expression's value, the variables being told by s: (0, value, ..), or (1, of the two sides) -/
noncomputable def evN (s : Nat → Option Nat) (x : sX) : (Nat → Nat → Nat → Bool) → Bool := Lean.Grind.CommRing.Expr.rec (motive := fun _ => (Nat → Nat → Nat → Bool) → Bool)
  (fun _ _ => false) (fun a k => k (nat_lit 0) a (nat_lit 0)) (fun _ _ => false) (fun i k => sOpt (s i) (fun n => k (nat_lit 0) n (nat_lit 0))) (fun _ _ _ => false) (fun _ _ _ _ _ => false) (fun _ _ _ _ _ => false)
  (fun _ _ ia ib k => ia (fun t a _ => sIf (Nat.beq t (nat_lit 0)) (ib (fun t b _ => sIf (Nat.beq t (nat_lit 0)) (k (nat_lit 1) a b)))))
  (fun _ o ih k => ih (fun t a b => sIf (Nat.beq t (nat_lit 1)) (evOp o a b (fun n => k (nat_lit 0) n (nat_lit 0))))) x
theorem evN_ok {r : sE} {s : Nat → Option Nat} (hs : ∀ i n, s i = some n → r.1 i = Int32.ofNat n) : ∀ (x : sX) (k : Nat → Nat → Nat → Bool), evN s x k = true → ∃ t a b, k t a b = true ∧ (t = 0 → sI r x = Int32.ofNat a) ∧ (t = 1 → ∃ y z, x = .mul y z ∧ sI r y = Int32.ofNat a ∧ sI r z = Int32.ofNat b) := by
  intro x
  induction x with
  | natCast a => intro k h; exact ⟨0, a, 0, h, fun _ => sI_c, (fun q => nomatch q)⟩
  | var i =>
    intro k h
    obtain ⟨n, h1, h2⟩ := sOpt_ok (show sOpt (s i) (fun n => k (nat_lit 0) n (nat_lit 0)) = true from h)
    exact ⟨0, n, 0, h2, fun _ => by rw [sI_v]; exact hs i n h1, fun q => nomatch q⟩
  | mul y z ihy ihz =>
    intro k h
    obtain ⟨t, a, b, h1, h2, -⟩ := ihy _ h
    obtain ⟨h3, h4⟩ := sIf_ok h1
    obtain ⟨t2, a2, b2, h5, h6, -⟩ := ihz _ h4
    obtain ⟨h7, h8⟩ := sIf_ok h5
    exact ⟨1, a, a2, h8, (fun q => nomatch q), fun _ => ⟨y, z, rfl, h2 (Nat.eq_of_beq_eq_true h3), h6 (Nat.eq_of_beq_eq_true h7)⟩⟩
  | pow y o ih =>
    intro k h
    obtain ⟨t, a, b, h1, -, h2⟩ := ih _ h
    obtain ⟨h3, h4⟩ := sIf_ok h1
    obtain ⟨u, v, rfl, h5, h6⟩ := h2 (Nat.eq_of_beq_eq_true h3)
    obtain ⟨n, h7, h8⟩ := evOp_ok h4
    refine ⟨0, n, 0, h7, fun _ => ?_, fun q => nomatch q⟩
    show (sD r (.pow (.mul u v) o)).1 = _
    rw [sD_b]
    exact h8 _ _ h5 h6
  | num a => intro k h; exact nomatch (show false = true from h)
  | intCast a => intro k h; exact nomatch (show false = true from h)
  | neg a ih => intro k h; exact nomatch (show false = true from h)
  | add a b iha ihb => intro k h; exact nomatch (show false = true from h)
  | sub a b iha ihb => intro k h; exact nomatch (show false = true from h)
/-- the value is n -/
noncomputable def evIs (s : Nat → Option Nat) (x : sX) (n : Nat) : Bool := evN s x (fun t a _ => Bool.and (Nat.beq t (nat_lit 0)) (Nat.beq a n))
theorem evIs_ok {r : sE} {s : Nat → Option Nat} {x : sX} {n : Nat} (hs : ∀ i n, s i = some n → r.1 i = Int32.ofNat n) (h : evIs s x n = true) : sI r x = Int32.ofNat n := by
  obtain ⟨t, a, b, h1, h2, -⟩ := evN_ok hs x _ h
  rw [Bool.and_eq_true] at h1
  rw [h2 (Nat.eq_of_beq_eq_true h1.1), Nat.eq_of_beq_eq_true h1.2]
/-- variables told: (which, what) -/
noncomputable def svL (l : List (Nat × Nat)) (i : Nat) : Option Nat := List.rec (motive := fun _ => Option Nat) none (fun q _ ih => Bool.rec (motive := fun _ => Option Nat) ih (some q.2) (Nat.beq i q.1)) l
theorem svL_ok {r : sE} : ∀ {l : List (Nat × Nat)}, (∀ q ∈ l, r.1 q.1 = Int32.ofNat q.2) → ∀ i n, svL l i = some n → r.1 i = Int32.ofNat n
  | [], _, i, n, h => nomatch h
  | q :: l, hl, i, n, h => by
    have h2 : Bool.rec (motive := fun _ => Option Nat) (svL l i) (some q.2) (Nat.beq i q.1) = some n := h
    cases hb : Nat.beq i q.1 with
    | true =>
      rw [hb] at h2
      cases h2
      rw [Nat.eq_of_beq_eq_true hb]
      exact hl q List.mem_cons_self
    | false =>
      rw [hb] at h2
      exact svL_ok (fun z hz => hl z (List.mem_cons_of_mem _ hz)) i n h2
-- orders as rows
noncomputable def nthO (l : List Nat) (i : Nat) : Nat := List.rec (motive := fun _ => Nat → Nat) (fun _ => nat_lit 0) (fun a _ ih i => Nat.rec (motive := fun _ => Nat) a (fun m _ => ih m) i) l i
theorem nthO_eq : ∀ (l : List Nat) (i : Nat), nthO l i = l.getD i 0
  | [], i => by simp [nthO]
  | a :: l, 0 => rfl
  | a :: l, i + 1 => by
    show nthO l i = _
    rw [nthO_eq l i]
    simp
/-- p behind q -/
noncomputable def mulO (p q : List Nat) : List Nat := rMap (fun t => nthO p (Nat.sub t (nat_lit 1))) q
noncomputable def codeO (o : List Nat) : Nat := List.rec (motive := fun _ => Nat) (nat_lit 0) (fun a _ ih => Nat.add a (Nat.mul (nat_lit 16) ih)) o
theorem codeO_tab : lAll (fun o => Nat.beq (codeO o) (ocode o)) ORDS = true := by decide +kernel
theorem codeO_eq {o : List Nat} (h : o ∈ ORDS) : codeO o = ocode o := Nat.eq_of_beq_eq_true (lAll_ok codeO_tab o h)
noncomputable def cntL (a : Nat) (l : List Nat) : Nat := List.rec (motive := fun _ => Nat) (nat_lit 0) (fun b _ ih => Bool.rec (motive := fun _ => Nat) ih (Nat.succ ih) (Nat.ble (Nat.succ b) a)) l
/-- how many twos are taken over each other -/
noncomputable def lenO (o : List Nat) : Nat := List.rec (motive := fun _ => Nat) (nat_lit 0) (fun a l ih => Nat.add (cntL a l) ih) o
theorem lenO_tab : lAll (fun o => Nat.ble (lenO o) (nat_lit 10)) ORDS = true := by decide +kernel
noncomputable def kInt (v : Option sV) (k : sX → Bool) : Bool := sOpt v (fun v => sVI v k)
theorem kInt_ok {v : Option sV} {k : sX → Bool} (h : kInt v k = true) : ∃ x, v = some (.inl x) ∧ k x = true := by
  obtain ⟨v, rfl, h⟩ := sOpt_ok h
  obtain ⟨x, rfl, h⟩ := sVI_ok h
  exact ⟨x, rfl, h⟩
def hid0 : Nat → va_E := fun _ => .inr (0, [])
theorem sW_nil {r : sE} {al : Nat → Nat} {cy : Nat → ClassId} {hid : Nat → va_E} {rest : va_W} : sW r al cy hid rest [] = rest := rfl
/-- a static method of ints that touches nothing -/
theorem gMet_pure (l : Launch) {D : va_G} {cy : Nat → ClassId} {al : Nat → Nat} {w : va_W} {r : sE} {fuel d k : Nat} {pa : List sK} {as : List sV} {ck : sX → List sK → Bool} {z : Int32} (hp : sPa r pa) (h : sRun fuel d k pa [] as (fun v pa m => Bool.and (eqL eqC m []) (kInt v (fun x => ck x pa))) = true) (hz : ∀ x pa, ck x pa = true → sPa r pa → sI r x = z) : gMet l D cy al d k w (as.map (sVal r al)) (fun v w2 => v = some (.int z) ∧ w2 = w) := by
  have key := gMet_run (D := D) (cy := cy) (al := al) (r := r) (hid := hid0) (rest := w) (G := fun v w2 => v = some (.int z) ∧ w2 = w) l hp h (fun v pa1 m h1 h2 => ?_)
  · exact key
  · rw [Bool.and_eq_true] at h1
    have e := eqL_ok eqC_ok _ _ h1.1
    subst e
    obtain ⟨x, rfl, h3⟩ := kInt_ok h1.2
    refine ⟨?_, rfl⟩
    show some (Value.int (sI r x)) = _
    rw [hz x pa1 h3 h2]
theorem q_len : lAll (fun o => sRun (nat_lit 10000) (nat_lit 1) (nat_lit 11) [] [] [.inl (.natCast (ocode o))] (fun v pa m => Bool.and (eqL eqC m []) (kInt v (fun x => sNum x (fun n => Nat.beq n (lenO o)))))) ORDS = true := by decide +kernel
/-- LENGTH of the class -/
theorem c_len (l : Launch) {D : va_G} {cy : Nat → ClassId} {al : Nat → Nat} {w : va_W} {d : Nat} (hd : 1 ≤ d) {o : List Nat} (ho : o ∈ ORDS) : gMet l D cy al d 11 w [.int (Int32.ofNat (ocode o))] (fun v w2 => v = some (.int (Int32.ofNat (lenO o))) ∧ w2 = w) := by
  have key := gMet_pure (D := D) (cy := cy) (al := al) (w := w) (r := ((fun _ => 0), (fun _ => 0))) l sPa_nil (lAll_ok q_len o ho) (z := Int32.ofNat (lenO o)) (fun x pa h _ => by
    obtain ⟨n, rfl, h⟩ := sNum_ok h
    rw [sI_c, Nat.eq_of_beq_eq_true h])
  simp only [List.map_cons, List.map_nil, sVal, sI_c] at key
  exact gMet_up hd key
/-- a product with an order that is told, as the code makes it -/
noncomputable def prW (m x : sX) (mask bits : Nat) : sX := .pow (.mul (.pow (.mul m (.natCast mask)) (nat_lit 3)) (.pow (.mul x (.natCast bits)) (nat_lit 6))) (nat_lit 4)
noncomputable def pr1 (x : sX) : sX := .pow (.mul (.natCast (nat_lit 344864)) (.pow (.mul x (.natCast (nat_lit 0))) (nat_lit 6))) (nat_lit 4)
noncomputable def prX (x1 x2 x3 x4 x5 : sX) : sX := prW (prW (prW (prW (pr1 x1) x2 (nat_lit 4294967055) (nat_lit 4)) x3 (nat_lit 4294963455) (nat_lit 8)) x4 (nat_lit 4294905855) (nat_lit 12)) x5 (nat_lit 4293984255) (nat_lit 16)
noncomputable def prJ (q : List Nat) (i : Nat) : Nat := Nat.sub (nthO q i) (nat_lit 1)
noncomputable def prE (v : Nat) (q : List Nat) : sX := prX (tgE v (prJ q (nat_lit 0))) (tgE v (prJ q (nat_lit 1))) (tgE v (prJ q (nat_lit 2))) (tgE v (prJ q (nat_lit 3))) (tgE v (prJ q (nat_lit 4)))
theorem prX_tab : lAll (fun t => evIs (fun _ => none) (prX (.natCast (nthO t 0)) (.natCast (nthO t 1)) (.natCast (nthO t 2)) (.natCast (nthO t 3)) (.natCast (nthO t 4))) (codeO t)) ORDS = true := by decide +kernel
theorem prX_congr {r : sE} {x1 x2 x3 x4 x5 y1 y2 y3 y4 y5 : sX} (h1 : sI r x1 = sI r y1) (h2 : sI r x2 = sI r y2) (h3 : sI r x3 = sI r y3) (h4 : sI r x4 = sI r y4) (h5 : sI r x5 = sI r y5) : sI r (prX x1 x2 x3 x4 x5) = sI r (prX y1 y2 y3 y4 y5) := by
  have b : ∀ (o : Nat) (x y x' y' : sX), (∀ a b a' b' : Int32 × Int64, a.1 = a'.1 → b.1 = b'.1 → (sB o a b).1 = (sB o a' b').1) → sI r x = sI r x' → sI r y = sI r y' → sI r (.pow (.mul x y) o) = sI r (.pow (.mul x' y') o) := fun o x y x' y' ho hx hy => by
    show (sD r (.pow (.mul x y) o)).1 = (sD r (.pow (.mul x' y') o)).1
    rw [sD_b, sD_b]
    exact ho _ _ _ _ hx hy
  have o3 : ∀ a b a' b' : Int32 × Int64, a.1 = a'.1 → b.1 = b'.1 → (sB 3 a b).1 = (sB 3 a' b').1 := fun a b a' b' h h' => by show a.1 &&& b.1 = a'.1 &&& b'.1; rw [h, h']
  have o4 : ∀ a b a' b' : Int32 × Int64, a.1 = a'.1 → b.1 = b'.1 → (sB 4 a b).1 = (sB 4 a' b').1 := fun a b a' b' h h' => by show a.1 ||| b.1 = a'.1 ||| b'.1; rw [h, h']
  have o6 : ∀ a b a' b' : Int32 × Int64, a.1 = a'.1 → b.1 = b'.1 → (sB 6 a b).1 = (sB 6 a' b').1 := fun a b a' b' h h' => by show a.1 <<< (b.1 &&& 31) = a'.1 <<< (b'.1 &&& 31); rw [h, h']
  have w : ∀ (m m' x x' : sX) (mask bits : Nat), sI r m = sI r m' → sI r x = sI r x' → sI r (prW m x mask bits) = sI r (prW m' x' mask bits) := fun m m' x x' mask bits hm hx => b 4 _ _ _ _ o4 (b 3 _ _ _ _ o3 hm rfl) (b 6 _ _ _ _ o6 hx rfl)
  exact w _ _ _ _ _ _ (w _ _ _ _ _ _ (w _ _ _ _ _ _ (w _ _ _ _ _ _ (b 4 _ _ _ _ o4 rfl (b 6 _ _ _ _ o6 h1 rfl)) h2) h3) h4) h5
theorem ORDS_tab : lAll (fun q => allL 5 (fun i => Bool.and (Nat.ble (nat_lit 1) (nthO q i)) (Nat.ble (nthO q i) (nat_lit 5)))) ORDS = true := by decide +kernel
theorem mul_tab : lAll (fun q => Bool.and (Nat.beq (sLn q) (nat_lit 5)) true) ORDS = true := by decide +kernel
theorem prE_ok {r : sE} {v : Nat} {p q : List Nat} (hp : p ∈ ORDS) (hq : q ∈ ORDS) (hm : mulO p q ∈ ORDS) (h : r.1 v = Int32.ofNat (ocode p)) : sI r (prE v q) = Int32.ofNat (ocode (mulO p q)) := by
  have ht := lAll_ok ORDS_tab q hq
  have hj : ∀ i, i < 5 → prJ q i < 5 := fun i hi => by
    have := allL_ok ht i hi
    rw [Bool.and_eq_true] at this
    have a1 : 1 ≤ nthO q i := Nat.le_of_ble_eq_true this.1
    have a2 : nthO q i ≤ 5 := Nat.le_of_ble_eq_true this.2
    show nthO q i - 1 < 5
    omega
  have hl : q.length = 5 := by
    have := lAll_ok mul_tab q hq
    rw [Bool.and_eq_true, sLn_ok] at this
    exact Nat.eq_of_beq_eq_true this.1
  have hv : ∀ i, i < 5 → sI r (tgE v (prJ q i)) = sI r (.natCast (nthO (mulO p q) i)) := fun i hi => by
    rw [tgE_ok hp (hj i hi) h, sI_c]
    congr 1
    unfold mulO
    rw [rMap_eq, nthO_eq, List.getD_eq_getElem?_getD, List.getD_eq_getElem?_getD, List.getElem?_map]
    have hi2 : i < q.length := by omega
    rw [List.getElem?_eq_getElem hi2]
    show _ = nthO p (q[i] - 1)
    rw [nthO_eq, List.getD_eq_getElem?_getD]
    show p[nthO q i - 1]?.getD 0 = _
    rw [nthO_eq, List.getD_eq_getElem?_getD, List.getElem?_eq_getElem hi2]
    rfl
  unfold prE
  rw [prX_congr (hv 0 (by omega)) (hv 1 (by omega)) (hv 2 (by omega)) (hv 3 (by omega)) (hv 4 (by omega)), ← codeO_eq hm]
  exact evIs_ok (fun _ _ q => by cases q) (lAll_ok prX_tab _ hm)
theorem q_prod : lAll (fun q => sRun (nat_lit 10000) (nat_lit 1) (nat_lit 8) [] [] [.inl (.var (nat_lit 819200)), .inl (.natCast (ocode q))] (fun v pa m => Bool.and (eqL eqC m []) (kInt v (fun x => eqX x (prE (nat_lit 819200) q))))) ORDS = true := by decide +kernel
theorem c_prod (l : Launch) {D : va_G} {cy : Nat → ClassId} {al : Nat → Nat} {w : va_W} {d : Nat} (hd : 1 ≤ d) {p q : List Nat} (hp : p ∈ ORDS) (hq : q ∈ ORDS) (hm : mulO p q ∈ ORDS) : gMet l D cy al d 8 w [.int (Int32.ofNat (ocode p)), .int (Int32.ofNat (ocode q))] (fun v w2 => v = some (.int (Int32.ofNat (ocode (mulO p q)))) ∧ w2 = w) := by
  have key := gMet_pure (D := D) (cy := cy) (al := al) (w := w) (r := ((fun _ => Int32.ofNat (ocode p)), (fun _ => 0))) l sPa_nil (lAll_ok q_prod q hq) (z := Int32.ofNat (ocode (mulO p q))) (fun x pa h _ => by
    rw [eqX_ok _ _ h]
    exact prE_ok hp hq hm rfl)
  simp only [List.map_cons, List.map_nil, sVal, sI_v, sI_c] at key
  exact gMet_up hd key
/-- the order that takes back -/
noncomputable def plO (v : Nat) (o : List Nat) : Nat := List.rec (motive := fun _ => Nat) (nat_lit 1) (fun a _ ih => Bool.rec (motive := fun _ => Nat) (Nat.succ ih) (nat_lit 1) (Nat.beq a v)) o
noncomputable def invO (o : List Nat) : List Nat := [plO (nat_lit 1) o, plO (nat_lit 2) o, plO (nat_lit 3) o, plO (nat_lit 4) o, plO (nat_lit 5) o]
theorem q_turn : sRun (nat_lit 10000) (nat_lit 1) (nat_lit 9) [] [] [.inl (.var (nat_lit 819200))] (fun v pa m => Bool.and (eqL eqC m []) (kInt v (fun x => lAll (fun o => evIs (svL [(nat_lit 819200, codeO o)]) x (codeO (invO o))) ORDS))) = true := by decide +kernel
theorem c_turn (l : Launch) {D : va_G} {cy : Nat → ClassId} {al : Nat → Nat} {w : va_W} {d : Nat} (hd : 1 ≤ d) {o : List Nat} (ho : o ∈ ORDS) : gMet l D cy al d 9 w [.int (Int32.ofNat (ocode o))] (fun v w2 => v = some (.int (Int32.ofNat (codeO (invO o)))) ∧ w2 = w) := by
  have key := gMet_pure (D := D) (cy := cy) (al := al) (w := w) (r := ((fun _ => Int32.ofNat (ocode o)), (fun _ => 0))) l sPa_nil q_turn (z := Int32.ofNat (codeO (invO o))) (fun x pa h _ => evIs_ok (svL_ok (fun z hz => by
    rcases List.mem_cons.mp hz with rfl | hz
    · rw [codeO_eq ho]
    · exact absurd hz List.not_mem_nil)) (lAll_ok h o ho))
  simp only [List.map_cons, List.map_nil, sVal, sI_v] at key
  exact gMet_up hd key
noncomputable def cntE (v : Nat) (o : List Nat) : Nat := List.rec (motive := fun _ => Nat) (nat_lit 0) (fun b _ ih => Bool.rec (motive := fun _ => Nat) ih (Nat.succ ih) (Nat.beq b v)) o
/-- an order of numbers up to n -/
noncomputable def isP (n : Nat) (o : List Nat) : Bool := Bool.and (Nat.beq (sLn o) (nat_lit 5)) (allL (nat_lit 5) (fun i => Bool.and (Nat.beq (cntE (Nat.succ i) o) (nat_lit 1)) (Bool.and (Bool.and (Nat.ble (nat_lit 1) (nthO o i)) (Nat.ble (nthO o i) (nat_lit 5))) (Bool.or (Nat.ble (Nat.succ i) n) (Nat.beq (nthO o i) (Nat.succ i))))))
noncomputable def lAny {α : Type} (f : α → Bool) (l : List α) : Bool := List.rec (motive := fun _ => Bool) false (fun a _ ih => Bool.or (f a) ih) l
theorem lAny_ok {α : Type} {f : α → Bool} : ∀ {l : List α}, lAny f l = true → ∃ a ∈ l, f a = true
  | [], h => nomatch h
  | a :: l, h => by
    have h2 : Bool.or (f a) (lAny f l) = true := h
    rw [Bool.or_eq_true] at h2
    rcases h2 with h2 | h2
    · exact ⟨a, List.mem_cons_self, h2⟩
    · obtain ⟨b, h3, h4⟩ := lAny_ok h2
      exact ⟨b, List.mem_cons_of_mem _ h3, h4⟩
theorem isP_tab : allL 5 (fun n => allL 5 (fun a => allL 5 (fun b => allL 5 (fun c => allL 5 (fun d => allL 5 (fun e => (fun o => Bool.or (Bool.not (isP (Nat.succ n) o)) (lAny (fun q => eqL Nat.beq o q) (ordN (Nat.succ n)))) [Nat.succ a, Nat.succ b, Nat.succ c, Nat.succ d, Nat.succ e])))))) = true := by decide +kernel
theorem isP_in {n : Nat} {o : List Nat} (hn : 1 ≤ n) (hn5 : n ≤ 5) (h : isP n o = true) : o ∈ ordN n := by
  have h0 := h
  unfold isP at h
  rw [Bool.and_eq_true, sLn_ok] at h
  have hl : o.length = 5 := Nat.eq_of_beq_eq_true h.1
  have hb : ∀ i, i < 5 → 1 ≤ o.getD i 0 ∧ o.getD i 0 ≤ 5 := fun i hi => by
    have := allL_ok h.2 i hi
    simp only [Bool.and_eq_true] at this
    rw [← nthO_eq]
    exact ⟨Nat.le_of_ble_eq_true this.2.1.1, Nat.le_of_ble_eq_true this.2.1.2⟩
  match o, hl with
  | [a, b, c, d, e], _ =>
    have ha := hb 0 (by omega)
    have hb' := hb 1 (by omega)
    have hc := hb 2 (by omega)
    have hd := hb 3 (by omega)
    have he := hb 4 (by omega)
    simp only [List.getD_cons_zero, List.getD_cons_succ] at ha hb' hc hd he
    have t := allL_ok (allL_ok (allL_ok (allL_ok (allL_ok (allL_ok isP_tab (n - 1) (by omega)) (a - 1) (by omega)) (b - 1) (by omega)) (c - 1) (by omega)) (d - 1) (by omega)) (e - 1) (by omega)
    simp only [show Nat.succ (n - 1) = n by omega, show Nat.succ (a - 1) = a by omega, show Nat.succ (b - 1) = b by omega, show Nat.succ (c - 1) = c by omega, show Nat.succ (d - 1) = d by omega, show Nat.succ (e - 1) = e by omega] at t
    rw [h0] at t
    obtain ⟨q, hq1, hq2⟩ := lAny_ok (show lAny (fun q => eqL Nat.beq [a, b, c, d, e] q) (ordN n) = true from t)
    rw [eqL_ok (fun _ _ => Nat.eq_of_beq_eq_true) _ _ hq2]
    exact hq1
theorem mulP_tab : allL 5 (fun n => lAll (fun p => lAll (fun q => isP (Nat.succ n) (mulO p q)) (ordN (Nat.succ n))) (ordN (Nat.succ n))) = true := by decide +kernel
theorem mulO_in {n : Nat} {p q : List Nat} (hn : 1 ≤ n) (hn5 : n ≤ 5) (hp : p ∈ ordN n) (hq : q ∈ ordN n) : mulO p q ∈ ordN n := by
  have := lAll_ok (lAll_ok (allL_ok mulP_tab (n - 1) (by omega)) p (by rw [show Nat.succ (n - 1) = n by omega]; exact hp)) q (by rw [show Nat.succ (n - 1) = n by omega]; exact hq)
  rw [show Nat.succ (n - 1) = n by omega] at this
  exact isP_in hn hn5 this
theorem invP_tab : allL 5 (fun n => lAll (fun p => isP (Nat.succ n) (invO p)) (ordN (Nat.succ n))) = true := by decide +kernel
theorem invO_in {n : Nat} {p : List Nat} (hn : 1 ≤ n) (hn5 : n ≤ 5) (hp : p ∈ ordN n) : invO p ∈ ordN n := by
  have := lAll_ok (allL_ok invP_tab (n - 1) (by omega)) p (by rw [show Nat.succ (n - 1) = n by omega]; exact hp)
  rw [show Nat.succ (n - 1) = n by omega] at this
  exact isP_in hn hn5 this
