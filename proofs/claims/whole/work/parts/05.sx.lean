/-! 05: the symbolic executor -/
/-- the tables' words that hold in every later state, too -/
def sTb : List Cond := lw_tbl.filter goodWord
def sIsN (w : Cond) : Bool := match w with
  | .fieldLinkNest .. => true
  | .methodLinkNest .. => true
  | _ => false
/-- links to members of a nest mate -/
def sTn : List Cond := lw_tbl.filter sIsN
def sNw (U : State) : Prop := ∀ w ∈ sTn, va_Nw w U
theorem sNw.warm {s U : State} (hW : s.WarmedH U.vm) (h : sNw s) : sNw U := fun w hw => by
  have h1 := h w hw
  have h2 := (List.mem_filter.mp hw).2
  cases w <;> first | exact va_Nw.warmF hW h1 | exact va_Nw.warmM hW h1 | exact nomatch (show false = true from h2)
theorem sNw.same {u U : State} (hvm : u.vm = U.vm) (h : sNw u) : sNw U := fun w hw => by
  have h1 := h w hw
  have h2 := (List.mem_filter.mp hw).2
  refine va_Nw.same ?_ hvm h1
  cases w <;> first | rfl | exact nomatch (show false = true from h2)
theorem sNw.use {args : Array Value} {U : State} (h : sNw U) {w : Cond} (hw : w ∈ sTn) : w.before args U = true := by
  have h1 := h w hw
  have h2 := (List.mem_filter.mp hw).2
  refine va_Nw.use ?_ h1
  cases w <;> first | rfl | exact nomatch (show false = true from h2)
/-- a condition of the path: (is it an equation, does it hold, x, y): x = y, or x < y, of ints -/
abbrev sK : Type := Bool × Bool × sX × sX
noncomputable def eqX (x : sX) : sX → Bool := Lean.Grind.CommRing.Expr.rec (motive := fun _ => sX → Bool)
  (fun _ _ => false)
  (fun a y => Lean.Grind.CommRing.Expr.rec (motive := fun _ => Bool) (fun _ => false) (fun b => Nat.beq a b) (fun _ => false) (fun _ => false) (fun _ _ => false) (fun _ _ _ _ => false) (fun _ _ _ _ => false) (fun _ _ _ _ => false) (fun _ _ _ => false) y)
  (fun _ _ => false)
  (fun a y => Lean.Grind.CommRing.Expr.rec (motive := fun _ => Bool) (fun _ => false) (fun _ => false) (fun _ => false) (fun b => Nat.beq a b) (fun _ _ => false) (fun _ _ _ _ => false) (fun _ _ _ _ => false) (fun _ _ _ _ => false) (fun _ _ _ => false) y)
  (fun _ ih y => Lean.Grind.CommRing.Expr.rec (motive := fun _ => Bool) (fun _ => false) (fun _ => false) (fun _ => false) (fun _ => false) (fun b _ => ih b) (fun _ _ _ _ => false) (fun _ _ _ _ => false) (fun _ _ _ _ => false) (fun _ _ _ => false) y)
  (fun _ _ _ _ _ => false) (fun _ _ _ _ _ => false)
  (fun _ _ iha ihb y => Lean.Grind.CommRing.Expr.rec (motive := fun _ => Bool) (fun _ => false) (fun _ => false) (fun _ => false) (fun _ => false) (fun _ _ => false) (fun _ _ _ _ => false) (fun _ _ _ _ => false) (fun c d _ _ => Bool.and (iha c) (ihb d)) (fun _ _ _ => false) y)
  (fun _ o ih y => Lean.Grind.CommRing.Expr.rec (motive := fun _ => Bool) (fun _ => false) (fun _ => false) (fun _ => false) (fun _ => false) (fun _ _ => false) (fun _ _ _ _ => false) (fun _ _ _ _ => false) (fun _ _ _ _ => false) (fun b u _ => Bool.and (Nat.beq o u) (ih b)) y) x
theorem eqX_ok (x y : sX) (h : eqX x y = true) : x = y := by
  induction x generalizing y with
  | natCast a => cases y <;> first | exact nomatch (show false = true from h) | exact congrArg _ (Nat.eq_of_beq_eq_true h)
  | var a => cases y <;> first | exact nomatch (show false = true from h) | exact congrArg _ (Nat.eq_of_beq_eq_true h)
  | pow a o ih =>
    cases y <;> first | exact nomatch (show false = true from h) | skip
    rename_i b u
    have h2 : Bool.and (Nat.beq o u) (eqX a b) = true := h
    rw [Bool.and_eq_true] at h2
    rw [Nat.eq_of_beq_eq_true h2.1, ih _ h2.2]
  | mul a b iha ihb =>
    cases y <;> first | exact nomatch (show false = true from h) | skip
    rename_i c d
    have h2 : Bool.and (eqX a c) (eqX b d) = true := h
    rw [Bool.and_eq_true] at h2
    rw [iha _ h2.1, ihb _ h2.2]
  | neg a ih =>
    cases y <;> first | exact nomatch (show false = true from h) | skip
    rename_i b
    rw [ih b h]
  | num a => exact nomatch (show false = true from h)
  | intCast a => exact nomatch (show false = true from h)
  | add a b iha ihb => exact nomatch (show false = true from h)
  | sub a b iha ihb => exact nomatch (show false = true from h)
def sKd (r : sE) (q : sK) : Prop := match q with
  | (true, true, x, y) => sI r x = sI r y
  | (true, false, x, y) => ¬ sI r x = sI r y
  | (false, true, x, y) => sI r x < sI r y
  | (false, false, x, y) => ¬ sI r x < sI r y
/-- what the path says of a question -/
noncomputable def sAsk (e : Bool) (x y : sX) (ky kn ku : Bool) (pa : List sK) : Bool := List.rec (motive := fun _ => Bool) ku (fun q _ ih => Bool.rec (motive := fun _ => Bool) ih (Bool.rec (motive := fun _ => Bool) kn ky q.2.1) (Bool.and (Bool.and (Bool.not (Bool.xor e q.1)) (eqX x q.2.2.1)) (eqX y q.2.2.2))) pa
def sHo (r : sE) (e : Bool) (x y : sX) : Prop := match e with
  | true => sI r x = sI r y
  | false => sI r x < sI r y
theorem sKd_t {r : sE} {e : Bool} {x y : sX} : sKd r (e, true, x, y) ↔ sHo r e x y := by cases e <;> rfl
theorem sKd_f {r : sE} {e : Bool} {x y : sX} : sKd r (e, false, x, y) ↔ ¬ sHo r e x y := by cases e <;> rfl
theorem sAsk_ok {r : sE} {e : Bool} {x y : sX} {ky kn ku : Bool} : ∀ {pa : List sK}, (∀ q ∈ pa, sKd r q) → sAsk e x y ky kn ku pa = true → (sHo r e x y ∧ ky = true) ∨ (¬ sHo r e x y ∧ kn = true) ∨ ku = true := by
  intro pa
  induction pa with
  | nil => intro _ h; exact Or.inr (Or.inr h)
  | cons q l ih =>
    intro hp h
    have hq := hp q List.mem_cons_self
    obtain ⟨e1, b1, x1, y1⟩ := q
    cases hc : (Bool.and (Bool.and (Bool.not (Bool.xor e e1)) (eqX x x1)) (eqX y y1)) with
    | false =>
      have h2 : sAsk e x y ky kn ku l = true := by
        have := h
        unfold sAsk at this
        simp only [hc] at this
        exact this
      exact ih (fun q hq => hp q (List.mem_cons_of_mem _ hq)) h2
    | true =>
      have h2 : Bool.rec (motive := fun _ => Bool) kn ky b1 = true := by
        have := h
        unfold sAsk at this
        simp only [hc] at this
        exact this
      simp only [Bool.and_eq_true] at hc
      obtain ⟨⟨he, hx⟩, hy⟩ := hc
      have e0 : e = e1 := by cases e <;> cases e1 <;> simp_all
      have e2 := eqX_ok _ _ hx
      have e3 := eqX_ok _ _ hy
      subst e0 e2 e3
      cases b1 with
      | true => exact Or.inl ⟨sKd_t.mp hq, h2⟩
      | false => exact Or.inr (Or.inl ⟨sKd_f.mp hq, h2⟩)
def sPa (r : sE) (pa : List sK) : Prop := ∀ q ∈ pa, sKd r q
/-- what the path knows x to be -/
noncomputable def sKn (x : sX) (k : Nat → Bool) (u : Bool) (pa : List sK) : Bool := List.rec (motive := fun _ => Bool) u (fun q _ ih => Bool.rec (motive := fun _ => Bool) ih (sNumE q.2.2.2 k ih) (Bool.and (Bool.and q.1 q.2.1) (eqX x q.2.2.1))) pa
theorem sKn_ok {r : sE} {x : sX} {k : Nat → Bool} {u : Bool} : ∀ {pa : List sK}, sPa r pa → sKn x k u pa = true → (∃ c, sI r x = Int32.ofNat c ∧ k c = true) ∨ u = true := by
  intro pa
  induction pa with
  | nil => intro _ h; exact Or.inr h
  | cons q l ih =>
    intro hp h
    have hq := hp q List.mem_cons_self
    have hl : sPa r l := fun z hz => hp z (List.mem_cons_of_mem _ hz)
    have h1 : Bool.rec (motive := fun _ => Bool) (sKn x k u l) (sNumE q.2.2.2 k (sKn x k u l)) (Bool.and (Bool.and q.1 q.2.1) (eqX x q.2.2.1)) = true := h
    cases hc : (Bool.and (Bool.and q.1 q.2.1) (eqX x q.2.2.1)) with
    | false =>
      rw [hc] at h1
      exact ih hl h1
    | true =>
      rw [hc] at h1
      rcases sNumE_ok (show sNumE q.2.2.2 k (sKn x k u l) = true from h1) with ⟨c, h2, h3⟩ | h2
      · obtain ⟨e1, b1, x1, y1⟩ := q
        simp only [Bool.and_eq_true] at hc
        obtain ⟨⟨he, hb⟩, hx⟩ := hc
        have e0 : e1 = true := he
        have e2 : b1 = true := hb
        have e3 := eqX_ok _ _ hx
        have e4 : y1 = .natCast c := h2
        subst e0 e2 e3 e4
        refine Or.inl ⟨c, ?_, h3⟩
        have e5 : sI r x = sI r (.natCast c) := hq
        rw [e5]
        simp only [sI, sD_c]
      · exact ih hl h2
/-- a constant, or known to be one -/
noncomputable def sCv (x : sX) (pa : List sK) (k : Nat → Bool) (u : Bool) : Bool := sNumE x k (sKn x k u pa)
theorem sCv_ok {r : sE} {x : sX} {k : Nat → Bool} {u : Bool} {pa : List sK} (hp : sPa r pa) (h : sCv x pa k u = true) : (∃ c, sI r x = Int32.ofNat c ∧ k c = true) ∨ u = true := by
  rcases sNumE_ok h with ⟨a, rfl, h⟩ | h
  · exact Or.inl ⟨a, by simp only [sI, sD_c], h⟩
  · exact sKn_ok hp h
/-- a question: folded, or as the path says, or both ways -/
noncomputable def sQ (e : Bool) (x y : sX) (pa : List sK) (kt kf : List sK → Bool) : Bool :=
  sCv x pa (fun a => sCv y pa (fun b => Bool.rec (motive := fun _ => Bool) (kf pa) (kt pa) (Bool.rec (motive := fun _ => Bool) (fLt a b) (fEq a b) e))
    (Bool.rec (motive := fun _ => Bool) (sAsk e x y (kt pa) (kf pa) (Bool.and (kt ((e, true, x, y) :: pa)) (kf ((e, false, x, y) :: pa))) pa) (Bool.rec (motive := fun _ => Bool) (kf pa) (kt pa) e) (eqX x y)))
    (Bool.rec (motive := fun _ => Bool) (sAsk e x y (kt pa) (kf pa) (Bool.and (kt ((e, true, x, y) :: pa)) (kf ((e, false, x, y) :: pa))) pa) (Bool.rec (motive := fun _ => Bool) (kf pa) (kt pa) e) (eqX x y))
theorem sQ_ok {r : sE} {e : Bool} {x y : sX} {pa : List sK} {kt kf : List sK → Bool} (hp : sPa r pa) (h : sQ e x y pa kt kf = true) : (sHo r e x y → ∃ pa1, sPa r pa1 ∧ kt pa1 = true) ∧ (¬ sHo r e x y → ∃ pa1, sPa r pa1 ∧ kf pa1 = true) := by
  have key : Bool.rec (motive := fun _ => Bool) (sAsk e x y (kt pa) (kf pa) (Bool.and (kt ((e, true, x, y) :: pa)) (kf ((e, false, x, y) :: pa))) pa) (Bool.rec (motive := fun _ => Bool) (kf pa) (kt pa) e) (eqX x y) = true → (sHo r e x y → ∃ pa1, sPa r pa1 ∧ kt pa1 = true) ∧ (¬ sHo r e x y → ∃ pa1, sPa r pa1 ∧ kf pa1 = true) := by
    intro h
    cases hE : eqX x y with
    | true =>
      rw [hE] at h
      have hxy := eqX_ok _ _ hE
      subst hxy
      cases e with
      | true => exact ⟨fun _ => ⟨pa, hp, h⟩, fun q => absurd rfl q⟩
      | false => exact ⟨fun q => absurd q (by
          show ¬ sI r x < sI r x
          rw [Int32.lt_iff_toInt_lt]
          omega), fun _ => ⟨pa, hp, h⟩⟩
    | false =>
      rw [hE] at h
      rcases sAsk_ok (r := r) hp (show sAsk e x y (kt pa) (kf pa) (Bool.and (kt ((e, true, x, y) :: pa)) (kf ((e, false, x, y) :: pa))) pa = true from h) with ⟨h1, h2⟩ | ⟨h1, h2⟩ | h2
      · exact ⟨fun _ => ⟨pa, hp, h2⟩, fun q => absurd h1 q⟩
      · exact ⟨fun q => absurd q h1, fun _ => ⟨pa, hp, h2⟩⟩
      · simp only [Bool.and_eq_true] at h2
        refine ⟨fun q => ⟨_, fun z hz => ?_, h2.1⟩, fun q => ⟨_, fun z hz => ?_, h2.2⟩⟩
        · rcases List.mem_cons.mp hz with rfl | hz
          · exact sKd_t.mpr q
          · exact hp z hz
        · rcases List.mem_cons.mp hz with rfl | hz
          · exact sKd_f.mpr q
          · exact hp z hz
  rcases sCv_ok hp h with ⟨a, hx, h1⟩ | h1
  · rcases sCv_ok hp h1 with ⟨b, hy, h2⟩ | h2
    · cases e with
      | true =>
        have hh : sHo r true x y ↔ fEq a b = true := by
          rw [fEq_ok, ← hx, ← hy]
          rfl
        rw [hh]
        cases hf : fEq a b with
        | true =>
          simp only [hf] at h2
          exact ⟨fun _ => ⟨pa, hp, h2⟩, fun q => absurd rfl q⟩
        | false =>
          simp only [hf] at h2
          exact ⟨fun q => (by cases q), fun _ => ⟨pa, hp, h2⟩⟩
      | false =>
        have hh : sHo r false x y ↔ fLt a b = true := by
          rw [fLt_ok, ← hx, ← hy]
          rfl
        rw [hh]
        cases hf : fLt a b with
        | true =>
          simp only [hf] at h2
          exact ⟨fun _ => ⟨pa, hp, h2⟩, fun q => absurd rfl q⟩
        | false =>
          simp only [hf] at h2
          exact ⟨fun q => (by cases q), fun _ => ⟨pa, hp, h2⟩⟩
    · exact key h2
  · exact key h1
/-- an instruction's row: its place, itself, the next place, a hint for the check -/
abbrev sIn : Type := Nat × Instr × Nat × Nat
abbrev sGo : Type := Nat → sL → List sV → List sK → sM → Bool
abbrev sFun : Type := Nat → sL → List sV → List sK → sM → sGo → Bool
/-- a branch by a condition of two ints -/
noncomputable def sBr (c : Jvm.ClassFile.Cond) (x y : sX) (pa : List sK) (kt kf : List sK → Bool) : Bool := Jvm.ClassFile.Cond.rec (motive := fun _ => Bool) (sQ true x y pa kt kf) (sQ true x y pa kf kt) (sQ false x y pa kt kf) (sQ false x y pa kf kt) (sQ false y x pa kt kf) (sQ false y x pa kf kt) c
noncomputable def sSw (x : sX) (d : Nat) (go : Nat → List sK → Bool) (ps : List (Int × Int)) : List sK → Bool := List.rec (motive := fun _ => List sK → Bool) (fun pa => go d pa) (fun q _ ih pa => Int.rec (motive := fun _ => Bool) (fun v => Int.rec (motive := fun _ => Bool) (fun t => sQ true x (.natCast v) pa (go t) ih) (fun _ => false) q.2) (fun _ => false) q.1) ps
/-- n places of src from sp on come into dst from dp on -/
noncomputable def sCopy (src : List sV) (sp dp : Nat) (n : Nat) : List sV → (List sV → Bool) → Bool := Nat.rec (motive := fun _ => List sV → (List sV → Bool) → Bool) (fun dst k => k dst) (fun m ih dst k => sGet src (Nat.add sp m) (fun v => sSet dst (Nat.add dp m) v (fun dst => ih dst k))) n
def sCat (v : sV) : Nat := match v with
  | .inr (.inl _) => 2
  | _ => 1
noncomputable def sVI (v : sV) (k : sX → Bool) : Bool := Sum.rec (motive := fun _ => Bool) k (fun _ => false) v
noncomputable def sVL (v : sV) (k : sX → Bool) : Bool := Sum.rec (motive := fun _ => Bool) (fun _ => false) (fun w => Sum.rec (motive := fun _ => Bool) k (fun _ => false) w) v
noncomputable def sVR (v : sV) (k : Nat → Bool) : Bool := Sum.rec (motive := fun _ => Bool) (fun _ => false) (fun w => Sum.rec (motive := fun _ => Bool) (fun _ => false) (fun o => Option.rec (motive := fun _ => Bool) false k o) w) v
noncomputable def sTop (st : List sV) (k : sV → List sV → Bool) : Bool := List.rec (motive := fun _ => Bool) false (fun v st _ => k v st) st
noncomputable def sTI (st : List sV) (k : sX → List sV → Bool) : Bool := sTop st (fun v st => sVI v (fun x => k x st))
noncomputable def sTL (st : List sV) (k : sX → List sV → Bool) : Bool := sTop st (fun v st => sVL v (fun x => k x st))
noncomputable def sTR (st : List sV) (k : Nat → List sV → Bool) : Bool := sTop st (fun v st => sVR v (fun x => k x st))
noncomputable def sOpt {α : Type} (o : Option α) (k : α → Bool) : Bool := Option.rec (motive := fun _ => Bool) false k o
theorem sVI_ok {v : sV} {k : sX → Bool} (h : sVI v k = true) : ∃ x, v = .inl x ∧ k x = true := by
  rcases v with x | x | x
  · exact ⟨x, rfl, h⟩
  · exact nomatch (show false = true from h)
  · exact nomatch (show false = true from h)
theorem sVL_ok {v : sV} {k : sX → Bool} (h : sVL v k = true) : ∃ x, v = .inr (.inl x) ∧ k x = true := by
  rcases v with x | x | x
  · exact nomatch (show false = true from h)
  · exact ⟨x, rfl, h⟩
  · exact nomatch (show false = true from h)
theorem sVR_ok {v : sV} {k : Nat → Bool} (h : sVR v k = true) : ∃ x, v = .inr (.inr (some x)) ∧ k x = true := by
  rcases v with x | x | x | x
  · exact nomatch (show false = true from h)
  · exact nomatch (show false = true from h)
  · exact nomatch (show false = true from h)
  · exact ⟨x, rfl, h⟩
theorem sTop_ok {st : List sV} {k : sV → List sV → Bool} (h : sTop st k = true) : ∃ v st1, st = v :: st1 ∧ k v st1 = true := by
  cases st with
  | nil => exact nomatch (show false = true from h)
  | cons v st => exact ⟨v, st, rfl, h⟩
theorem sTI_ok {st : List sV} {k : sX → List sV → Bool} (h : sTI st k = true) : ∃ x st1, st = .inl x :: st1 ∧ k x st1 = true := by
  obtain ⟨v, st1, rfl, h⟩ := sTop_ok h
  obtain ⟨x, rfl, h⟩ := sVI_ok h
  exact ⟨x, st1, rfl, h⟩
theorem sTL_ok {st : List sV} {k : sX → List sV → Bool} (h : sTL st k = true) : ∃ x st1, st = .inr (.inl x) :: st1 ∧ k x st1 = true := by
  obtain ⟨v, st1, rfl, h⟩ := sTop_ok h
  obtain ⟨x, rfl, h⟩ := sVL_ok h
  exact ⟨x, st1, rfl, h⟩
theorem sTR_ok {st : List sV} {k : Nat → List sV → Bool} (h : sTR st k = true) : ∃ x st1, st = .inr (.inr (some x)) :: st1 ∧ k x st1 = true := by
  obtain ⟨v, st1, rfl, h⟩ := sTop_ok h
  obtain ⟨x, rfl, h⟩ := sVR_ok h
  exact ⟨x, st1, rfl, h⟩
theorem sOpt_ok {α : Type} {o : Option α} {k : α → Bool} (h : sOpt o k = true) : ∃ a, o = some a ∧ k a = true := by
  cases o with
  | none => exact nomatch (show false = true from h)
  | some a => exact ⟨a, rfl, h⟩
/-- the cell q, of the kind K -/
noncomputable def sCell (mem : sM) (q K : Nat) (k : Nat → List sV → Bool) : Bool := sGet mem q (fun c => Prod.rec (motive := fun _ => Bool) (fun kd w => Prod.rec (motive := fun _ => Bool) (fun u vs => sIf (Nat.beq kd K) (k u vs)) w) c)
theorem sCell_ok {mem : sM} {q K : Nat} {k : Nat → List sV → Bool} (h : sCell mem q K k = true) : ∃ u vs, mem[q]? = some (K, u, vs) ∧ k u vs = true := by
  obtain ⟨⟨kd, u, vs⟩, h1, h2⟩ := sGet_ok _ _ _ h
  obtain ⟨h3, h4⟩ := sIf_ok h2
  have : kd = K := Nat.eq_of_beq_eq_true h3
  subst this
  exact ⟨u, vs, h1, h4⟩
-- the instructions
noncomputable def oLdc (n : Nat) : sFun := fun nx L st pa mem go => go nx L (.inl (.natCast n) :: st) pa mem
noncomputable def oLdc2 (n : Nat) : sFun := fun nx L st pa mem go => go nx L (.inr (.inl (.natCast n)) :: st) pa mem
noncomputable def oIload (i : Nat) : sFun := fun nx L st pa mem go => sGet L i (fun w => sOpt w (fun v => sVI v (fun x => go nx L (.inl x :: st) pa mem)))
noncomputable def oLload (i : Nat) : sFun := fun nx L st pa mem go => sGet L i (fun w => sOpt w (fun v => sVL v (fun x => go nx L (.inr (.inl x) :: st) pa mem)))
noncomputable def oAload (i : Nat) : sFun := fun nx L st pa mem go => sGet L i (fun w => sOpt w (fun v => sVR v (fun x => go nx L (.inr (.inr (some x)) :: st) pa mem)))
noncomputable def oIstore (i : Nat) : sFun := fun nx L st pa mem go => sTI st (fun x st => sPut1 L i (.inl x) (fun L => go nx L st pa mem))
noncomputable def oLstore (i : Nat) : sFun := fun nx L st pa mem go => sTL st (fun x st => sPut2 L i (.inr (.inl x)) (fun L => go nx L st pa mem))
noncomputable def oAstore (i : Nat) : sFun := fun nx L st pa mem go => sTR st (fun x st => sPut1 L i (.inr (.inr (some x))) (fun L => go nx L st pa mem))
noncomputable def oIinc (i n : Nat) : sFun := fun nx L st pa mem go => sGet L i (fun w => sOpt w (fun v => sVI v (fun x => sBin (nat_lit 0) fAdd x (.natCast n) (fun z => sPut1 L i (.inl z) (fun L => go nx L st pa mem)))))
/-- two ints to an int -/
noncomputable def oII (o : Nat) (f : Nat → Nat → Nat) : sFun := fun nx L st pa mem go => sTI st (fun y st => sTI st (fun x st => sBin o f x y (fun z => go nx L (.inl z :: st) pa mem)))
noncomputable def oLL (o : Nat) (f : Nat → Nat → Nat) : sFun := fun nx L st pa mem go => sTL st (fun y st => sTL st (fun x st => sBin o f x y (fun z => go nx L (.inr (.inl z) :: st) pa mem)))
noncomputable def oIrem : sFun := fun nx L st pa mem go => sTI st (fun y st => sNum y (fun b => sIf (Bool.not (fEq b (nat_lit 0))) (sTI st (fun x st => sBin (nat_lit 9) (fI (fun a b => a - a / b * b)) x y (fun z => go nx L (.inl z :: st) pa mem)))))
noncomputable def oLdv (o : Nat) (f : Nat → Nat → Nat) : sFun := fun nx L st pa mem go => sTL st (fun y st => sNum y (fun b => sIf (Bool.not (Nat.beq (Nat.mod b (nat_lit 18446744073709551616)) (nat_lit 0))) (sTL st (fun x st => sBin o f x y (fun z => go nx L (.inr (.inl z) :: st) pa mem)))))
noncomputable def oLsh (o : Nat) (f : Nat → Nat → Nat) : sFun := fun nx L st pa mem go => sTI st (fun y st => sTL st (fun x st => sBin o f x y (fun z => go nx L (.inr (.inl z) :: st) pa mem)))
noncomputable def oLcmp : sFun := fun nx L st pa mem go => sTL st (fun y st => sTL st (fun x st => sBin (nat_lit 10) (fun a b => fN (lg_cmp (Int64.ofNat a) (Int64.ofNat b))) x y (fun z => go nx L (.inl z :: st) pa mem)))
noncomputable def oI1 (o : Nat) (f : Nat → Nat) : sFun := fun nx L st pa mem go => sTI st (fun x st => sUn o f x (fun z => go nx L (.inl z :: st) pa mem))
noncomputable def oL2i : sFun := fun nx L st pa mem go => sTL st (fun x st => sUn (nat_lit 4) (fun a => fN (Int64.ofNat a).toInt32) x (fun z => go nx L (.inl z :: st) pa mem))
noncomputable def oI2l : sFun := fun nx L st pa mem go => sTI st (fun x st => sUn (nat_lit 21) (fun a => gN (Int32.ofNat a).toInt64) x (fun z => go nx L (.inr (.inl z) :: st) pa mem))
noncomputable def oLneg : sFun := fun nx L st pa mem go => sTL st (fun x st => sUn (nat_lit 20) (fun a => gN (-Int64.ofNat a)) x (fun z => go nx L (.inr (.inl z) :: st) pa mem))
noncomputable def oDup : sFun := fun nx L st pa mem go => sTop st (fun v st => sIf (Nat.beq (sCat v) (nat_lit 1)) (go nx L (v :: v :: st) pa mem))
noncomputable def oDup2 : sFun := fun nx L st pa mem go => sTop st (fun v st => sIf (Nat.beq (sCat v) (nat_lit 1)) (sTop st (fun w st => sIf (Nat.beq (sCat w) (nat_lit 1)) (go nx L (v :: w :: v :: w :: st) pa mem))))
noncomputable def oGoto (t : Nat) : sFun := fun _ L st pa mem go => go t L st pa mem
/-- a long constant that is an int's -/
noncomputable def sC32 (n : Nat) (k : Nat → Bool) (u : Bool) : Bool := Bool.rec (motive := fun _ => Bool) (Bool.rec (motive := fun _ => Bool) u (sFc (Nat.mod n (nat_lit 4294967296)) k) (Bool.and (Nat.ble (nat_lit 18446744071562067968) n) (Nat.ble (Nat.succ n) (nat_lit 18446744073709551616)))) (k n) (Nat.ble (Nat.succ n) (nat_lit 2147483648))
theorem sC32_ok {n : Nat} {k : Nat → Bool} {u : Bool} (h : sC32 n k u = true) : (∃ c, Int64.ofNat n = (Int32.ofNat c).toInt64 ∧ k c = true) ∨ u = true := by
  unfold sC32 at h
  cases h0 : Nat.ble (Nat.succ n) (nat_lit 2147483648) with
  | true =>
    simp only [h0] at h
    have h1 : n < 2147483648 := Nat.le_of_ble_eq_true h0
    refine Or.inl ⟨n, ?_, h⟩
    rw [← Int64.toInt_inj, Int32.toInt_toInt64]
    simp only [Int64.toInt_ofNat', Int32.toInt_ofNat', Int.bmod_def, show ((Int32.size : Nat) : Int) = 4294967296 from rfl, show ((Int64.size : Nat) : Int) = 18446744073709551616 from rfl]
    omega
  | false =>
    simp only [h0] at h
    cases h1 : (Bool.and (Nat.ble (nat_lit 18446744071562067968) n) (Nat.ble (Nat.succ n) (nat_lit 18446744073709551616))) with
    | true =>
      simp only [h1] at h
      rw [sFc_eq] at h
      rw [Bool.and_eq_true] at h1
      have h2 : 18446744071562067968 ≤ n := Nat.le_of_ble_eq_true h1.1
      have h3 : n < 18446744073709551616 := Nat.le_of_ble_eq_true h1.2
      refine Or.inl ⟨n % 4294967296, ?_, h⟩
      rw [f_mod, ← Int64.toInt_inj, Int32.toInt_toInt64]
      simp only [Int64.toInt_ofNat', Int32.toInt_ofNat', Int.bmod_def, show ((Int32.size : Nat) : Int) = 4294967296 from rfl, show ((Int64.size : Nat) : Int) = 18446744073709551616 from rfl]
      omega
    | false =>
      simp only [h1] at h
      exact Or.inr h
/-- lcmp of an int's long and a constant: then the int and the constant -/
def sIsL (x : sX) : Option (sX × Nat) := match x with
  | .pow (.mul (.pow (.neg u) o1) (.natCast n)) o2 => match Bool.and (Nat.beq o1 (nat_lit 21)) (Nat.beq o2 (nat_lit 10)) with
    | true => some (u, n)
    | false => none
  | _ => none
theorem sIsL_ok {x u : sX} {n : Nat} (h : sIsL x = some (u, n)) : x = .pow (.mul (.pow (.neg u) 21) (.natCast n)) 10 := by
  unfold sIsL at h
  split at h
  · split at h
    · rename_i h1
      rw [Bool.and_eq_true] at h1
      cases h
      have e1 := Nat.eq_of_beq_eq_true h1.1
      have e2 := Nat.eq_of_beq_eq_true h1.2
      subst e1 e2
      rfl
    · cases h
  · cases h
noncomputable def sNrm (x : sX) (k : sX → sX → Bool) : Bool := Option.rec (motive := fun _ => Bool) (k x (.natCast (nat_lit 0))) (fun q => sC32 q.2 (fun c => k q.1 (.natCast c)) (k x (.natCast (nat_lit 0)))) (sIsL x)
/-- two ints that stand to each other as x to 0 -/
theorem sNrm_ok {r : sE} {x : sX} {k : sX → sX → Bool} (h : sNrm x k = true) : ∃ a b, k a b = true ∧ (sI r x = 0 ↔ sI r a = sI r b) ∧ (sI r x < 0 ↔ sI r a < sI r b) ∧ (0 < sI r x ↔ sI r b < sI r a) := by
  have z0 : sI r (.natCast (nat_lit 0)) = 0 := by simp only [sI, sD_c]; rfl
  have base : k x (.natCast (nat_lit 0)) = true → ∃ a b, k a b = true ∧ (sI r x = 0 ↔ sI r a = sI r b) ∧ (sI r x < 0 ↔ sI r a < sI r b) ∧ (0 < sI r x ↔ sI r b < sI r a) := fun q => ⟨_, _, q, by rw [z0], by rw [z0], by rw [z0]⟩
  cases hL : sIsL x with
  | none =>
    unfold sNrm at h
    simp only [hL] at h
    exact base h
  | some q =>
    obtain ⟨u, n⟩ := q
    unfold sNrm at h
    simp only [hL] at h
    rcases sC32_ok h with ⟨c, h1, h2⟩ | h2
    · refine ⟨_, _, h2, ?_⟩
      have e1 := sIsL_ok hL
      subst e1
      have e2 : sI r (.pow (.mul (.pow (.neg u) 21) (.natCast n)) 10) = lg_cmp (sI r u).toInt64 (Int32.ofNat c).toInt64 := by
        rw [← h1]
        simp only [sI, sD_b, sD_u, sD_c]
        rfl
      rw [e2, show sI r (.natCast c) = Int32.ofNat c by simp only [sI, sD_c]]
      generalize sI r u = p1
      generalize Int32.ofNat c = p2
      unfold lg_cmp
      simp only [gt_iff_lt, Int64.lt_iff_toInt_lt, ← Int64.toInt_inj, Int32.lt_iff_toInt_lt, ← Int32.toInt_inj, Int32.toInt_toInt64]
      refine ⟨?_, ?_, ?_⟩ <;> (repeat' split) <;> simp <;> omega
    · exact base h2
noncomputable def oIf (c : Jvm.ClassFile.Cond) (t : Nat) : sFun := fun nx L st pa mem go => sTI st (fun x st => sNrm x (fun x y => sBr c x y pa (fun pa => go t L st pa mem) (fun pa => go nx L st pa mem)))
noncomputable def oIf2 (c : Jvm.ClassFile.Cond) (t : Nat) : sFun := fun nx L st pa mem go => sTI st (fun y st => sTI st (fun x st => sBr c x y pa (fun pa => go t L st pa mem) (fun pa => go nx L st pa mem)))
noncomputable def oSw (d : Nat) (ps : List (Int × Int)) : sFun := fun _ L st pa mem go => sTI st (fun x st => sSw x d (fun t pa => go t L st pa mem) ps pa)
noncomputable def oGetf (n : Nat) : sFun := fun nx L st pa mem go => sTR st (fun q st => sCell mem q (nat_lit 0) (fun ci vs => sIf (Nat.beq ci (Nat.div n (nat_lit 64))) (sGet vs (Nat.mod n (nat_lit 64)) (fun v => go nx L (v :: st) pa mem))))
/-- a value comes into a field -/
noncomputable def sPutf (n : Nat) (v : sV) (q : Nat) (mem : sM) (k : sM → Bool) : Bool := sCell mem q (nat_lit 0) (fun ci vs => sIf (Nat.beq ci (Nat.div n (nat_lit 64))) (sSet vs (Nat.mod n (nat_lit 64)) v (fun vs => sSet mem q ((nat_lit 0), ci, vs) k)))
noncomputable def oPutI (n : Nat) : sFun := fun nx L st pa mem go => sTI st (fun v st => sTR st (fun q st => sPutf n (.inl v) q mem (fun mem => go nx L st pa mem)))
noncomputable def oPutZ (n : Nat) : sFun := fun nx L st pa mem go => sTI st (fun v st => sNum v (fun b => sIf (Nat.ble b (nat_lit 1)) (sTR st (fun q st => sPutf n (.inl (.natCast b)) q mem (fun mem => go nx L st pa mem)))))
noncomputable def oPutJ (n : Nat) : sFun := fun nx L st pa mem go => sTL st (fun v st => sTR st (fun q st => sPutf n (.inr (.inl v)) q mem (fun mem => go nx L st pa mem)))
noncomputable def oPutR (n : Nat) : sFun := fun nx L st pa mem go => sTR st (fun v st => sTR st (fun q st => sPutf n (.inr (.inr (some v))) q mem (fun mem => go nx L st pa mem)))
noncomputable def oGets (j : Nat) : sFun := fun nx L st pa mem go => go nx L (.inr (.inr (some (Nat.add (nat_lit 1000000) j))) :: st) pa mem
/-- an index, constant, and a reference -/
noncomputable def sIx (st : List sV) (k : Nat → Nat → List sV → Bool) : Bool := sTI st (fun x st => sNum x (fun i => sIf (Nat.ble (Nat.succ i) (nat_lit 2147483648)) (sTR st (fun q st => k i q st))))
noncomputable def sStat (i q : Nat) (k : Nat → Bool) : Bool := Bool.rec (motive := fun _ => Bool) (sIf (Nat.beq q (nat_lit 1000001)) (sGet sCodes i k)) (sGet sBegin i k) (Nat.beq q (nat_lit 1000000))
noncomputable def oIaload : sFun := fun nx L st pa mem go => sIx st (fun i q st => Bool.rec (motive := fun _ => Bool) (sStat i q (fun v => go nx L (.inl (.natCast v) :: st) pa mem)) (sCell mem q (nat_lit 1) (fun _ vs => sGet vs i (fun v => sVI v (fun x => go nx L (.inl x :: st) pa mem)))) (Nat.ble q (nat_lit 999999)))
noncomputable def oBaload : sFun := fun nx L st pa mem go => sIx st (fun i q st => Bool.or (sCell mem q (nat_lit 2) (fun _ vs => sGet vs i (fun v => sVI v (fun x => go nx L (.inl x :: st) pa mem)))) (sCell mem q (nat_lit 3) (fun _ vs => sGet vs i (fun v => sVI v (fun x => go nx L (.inl x :: st) pa mem)))))
noncomputable def oLaload : sFun := fun nx L st pa mem go => sIx st (fun i q st => sCell mem q (nat_lit 4) (fun _ vs => sGet vs i (fun v => sVL v (fun x => go nx L (.inr (.inl x) :: st) pa mem))))
noncomputable def oAaload : sFun := fun nx L st pa mem go => sIx st (fun i q st => Bool.or (sCell mem q (nat_lit 5) (fun _ vs => sGet vs i (fun v => sVR v (fun x => go nx L (.inr (.inr (some x)) :: st) pa mem)))) (sCell mem q (nat_lit 6) (fun _ vs => sGet vs i (fun v => sVR v (fun x => go nx L (.inr (.inr (some x)) :: st) pa mem)))))
/-- a value comes into a place of an array of kind K -/
noncomputable def sPuta (K : Nat) (v : sV) (i q : Nat) (mem : sM) (k : sM → Bool) : Bool := sCell mem q K (fun u vs => sSet vs i v (fun vs => sSet mem q (K, u, vs) k))
noncomputable def oIastore : sFun := fun nx L st pa mem go => sTI st (fun x st => sIx st (fun i q st => sPuta (nat_lit 1) (.inl x) i q mem (fun mem => go nx L st pa mem)))
noncomputable def oBastore : sFun := fun nx L st pa mem go => sTI st (fun x st => sIx st (fun i q st => Bool.or (sUn (nat_lit 2) (fun a => fN (vp_nar .byte (Int32.ofNat a))) x (fun x => sPuta (nat_lit 2) (.inl x) i q mem (fun mem => go nx L st pa mem))) (sUn (nat_lit 3) (fun a => fN (vp_nar .boolean (Int32.ofNat a))) x (fun x => sPuta (nat_lit 3) (.inl x) i q mem (fun mem => go nx L st pa mem)))))
noncomputable def oLastore : sFun := fun nx L st pa mem go => sTL st (fun x st => sIx st (fun i q st => sPuta (nat_lit 4) (.inr (.inl x)) i q mem (fun mem => go nx L st pa mem)))
noncomputable def sNil (st : List sV) (k : Bool) : Bool := List.rec (motive := fun _ => Bool) k (fun _ _ _ => false) st
theorem sNil_ok {st : List sV} {k : Bool} (h : sNil st k = true) : st = [] ∧ k = true := by
  cases st with
  | nil => exact ⟨rfl, h⟩
  | cons v st => exact nomatch (show false = true from h)
noncomputable def sIf2 (b c : Bool) (k : Bool) : Bool := sIf b (sIf c k)
noncomputable def sLn {α : Type} (l : List α) : Nat := List.rec (motive := fun _ => Nat) (nat_lit 0) (fun _ _ ih => Nat.succ ih) l
theorem sLn_ok {α : Type} (l : List α) : sLn l = l.length := by
  induction l with
  | nil => rfl
  | cons a l ih => show Nat.succ (sLn l) = _; rw [ih]; rfl
noncomputable def oLen : sFun := fun nx L st pa mem go => sTR st (fun q st => sCell mem q (nat_lit 1) (fun _ vs => sFc (sLn vs) (fun n => go nx L (.inl (.natCast n) :: st) pa mem)))
/-- System.arraycopy of ints -/
noncomputable def oCopy : sFun := fun nx L st pa mem go => sTI st (fun x st => sNum x (fun n => sIx st (fun dp q st => sIx st (fun sp q0 st => sIf (Bool.and (Nat.ble n (nat_lit 1000)) (Bool.or (Nat.ble (nat_lit 1) n) (Bool.and (Nat.beq sp (nat_lit 0)) (Nat.beq dp (nat_lit 0))))) (sNil st (sCell mem q0 (nat_lit 1) (fun _ v0 => sCell mem q (nat_lit 1) (fun u v1 => sCopy v0 sp dp n v1 (fun vs => sSet mem q ((nat_lit 1), u, vs) (fun mem => go nx L st pa mem))))))))))
noncomputable def sCats (l : List sV) : Nat := List.rec (motive := fun _ => Nat) (nat_lit 0) (fun v _ ih => Nat.add (sCat v) ih) l
/-- Math.abs of a long -/
noncomputable def oAbs : sFun := fun nx L st pa mem go => sTL st (fun x st => sIf (Nat.ble (sCats st) (nat_lit 8)) (sUn (nat_lit 22) (fun a => gN (if 0 < Int64.ofNat a then Int64.ofNat a else -Int64.ofNat a)) x (fun z => go nx L (.inr (.inl z) :: st) pa mem)))
noncomputable def oDyn (n : Nat) : sFun := Nat.rec (motive := fun _ => sFun) oCopy (fun _ _ => oAbs) n
noncomputable def sIz (z : Int) (k : Nat → sFun) : sFun := Int.rec (motive := fun _ => sFun) k (fun _ _ _ _ _ _ _ => false) z
/-- what an instruction does: a step, a call, an end -/
noncomputable def sOp (ir : Instr) : sFun ⊕ (Nat ⊕ Nat) := match ir with
  | .ldc n => .inl (oLdc n)
  | .ldc2_w n => .inl (oLdc2 n)
  | .iload i => .inl (oIload i)
  | .lload i => .inl (oLload i)
  | .aload i => .inl (oAload i)
  | .istore i => .inl (oIstore i)
  | .lstore i => .inl (oLstore i)
  | .astore i => .inl (oAstore i)
  | .iinc i n => .inl (sIz n (oIinc i))
  | .iadd => .inl (oII (nat_lit 0) fAdd)
  | .isub => .inl (oII (nat_lit 1) fSub)
  | .imul => .inl (oII (nat_lit 2) fMul)
  | .iand => .inl (oII (nat_lit 3) fAnd)
  | .ior => .inl (oII (nat_lit 4) fOr)
  | .ixor => .inl (oII (nat_lit 5) (fI (fun a b => a ^^^ b)))
  | .ishl => .inl (oII (nat_lit 6) fShl)
  | .ishr => .inl (oII (nat_lit 7) fShr)
  | .iushr => .inl (oII (nat_lit 8) (fI (fun a b => (a.toUInt32 >>> (b.toUInt32 &&& Int32.toUInt32 31)).toInt32)))
  | .irem => .inl oIrem
  | .ineg => .inl (oI1 (nat_lit 0) (fun a => fN (-Int32.ofNat a)))
  | .i2b => .inl (oI1 (nat_lit 1) (fun a => fN (Int32.ofNat a).toInt8.toInt32))
  | .l2i => .inl oL2i
  | .i2l => .inl oI2l
  | .lneg => .inl oLneg
  | .ladd => .inl (oLL (nat_lit 20) (fJ (fun a b => a + b)))
  | .lsub => .inl (oLL (nat_lit 21) (fJ (fun a b => a - b)))
  | .lmul => .inl (oLL (nat_lit 22) (fJ (fun a b => a * b)))
  | .lor => .inl (oLL (nat_lit 24) (fJ (fun a b => a ||| b)))
  | .lshr => .inl (oLsh (nat_lit 27) (fun a b => gN (Int64.ofNat a >>> ((Int32.ofNat b).toInt64 &&& 63))))
  | .lushr => .inl (oLsh (nat_lit 28) (fun a b => gN ((Int64.ofNat a).toUInt64 >>> ((Int32.ofNat b).toInt64.toUInt64 &&& Int64.toUInt64 63)).toInt64))
  | .ldiv => .inl (oLdv (nat_lit 29) (fJ (fun a b => a / b)))
  | .lrem => .inl (oLdv (nat_lit 30) (fJ (fun a b => a - a / b * b)))
  | .lcmp => .inl oLcmp
  | .dup => .inl oDup
  | .dup2 => .inl oDup2
  | .goto t => .inl (sIz t oGoto)
  | .ifCond c t => .inl (sIz t (oIf c))
  | .if_icmp c t => .inl (sIz t (oIf2 c))
  | .lookupswitch d ps => .inl (sIz d (fun d => oSw d ps.toList))
  | .getfield n => .inl (oGetf n)
  | .putfield n => .inl (oPutI n)
  | .putstatic n => .inl (oPutZ n)
  | .instanceof n => .inl (oPutJ n)
  | .checkcast n => .inl (oPutR n)
  | .getstatic j => .inl (oGets j)
  | .iaload => .inl oIaload
  | .baload => .inl oBaload
  | .laload => .inl oLaload
  | .aaload => .inl oAaload
  | .iastore => .inl oIastore
  | .bastore => .inl oBastore
  | .lastore => .inl oLastore
  | .invokedynamic n => .inl (oDyn n)
  | .arraylength => .inl oLen
  | .invokestatic n => .inr (.inl n)
  | .invokevirtual n => .inr (.inl n)
  | .invokespecial n => .inr (.inl n)
  | .return_ => .inr (.inr (nat_lit 0))
  | .ireturn => .inr (.inr (nat_lit 1))
  | .lreturn => .inr (.inr (nat_lit 2))
  | .areturn => .inr (.inr (nat_lit 3))
  | _ => .inr (.inr (nat_lit 9))
