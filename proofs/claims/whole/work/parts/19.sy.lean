/-! 19: the executor of makers, and its soundness -/
noncomputable def sApp {α : Type} (l : List α) : List α → (List α → Bool) → Bool := List.rec (motive := fun _ => List α → (List α → Bool) → Bool) (fun b k => k b) (fun a _ ih b k => ih b (fun l => k (a :: l))) l
theorem sApp_eq {α : Type} (l b : List α) (k : List α → Bool) : sApp l b k = k (l ++ b) := by
  induction l generalizing k with
  | nil => rfl
  | cons a l ih => exact ih (fun l => k (a :: l))
noncomputable def sBd (n : Nat) (L : sL) (st : List sV) (mem : sM) : Bool := Bool.and (Nat.ble n (nat_lit 999000)) (Bool.and (sAllL (sBdO n) L) (Bool.and (sAllL (sBdV n) st) (sAllL (sBdC n) mem)))
noncomputable def sBd2 (n : Nat) (L : sL) (st : List sV) : Bool := Bool.and (sAllL (sBdO n) L) (sAllL (sBdV n) st)
abbrev sGy : Type := Nat → sL → List sV → List sK → sM → Nat → Nat → Bool
abbrev sIh : Type := Nat → sMc → Nat → sKr → sGy
/-- new cells -/
noncomputable def sMkN (N0 : Nat) (cs : sM) (d1 d2 : Nat) (go : sGy) (me : sMc) (nx : Nat) (L : sL) (st : List sV) (pa : List sK) (mem : sM) (nc ns : Nat) : Bool :=
  sFc (sLn mem) (fun n => sIf (Bool.and (Nat.ble N0 n) (sBd n L st mem)) (sIf (Bool.and (Nat.ble (Nat.add nc d1) me.2.2.2.2.1) (Nat.ble (Nat.add ns d2) me.2.2.2.2.2)) (sFc (Nat.add nc d1) (fun nc => sFc (Nat.add ns d2) (fun ns => sApp mem cs (fun mem => go nx L (.inr (.inr (some n)) :: st) pa mem nc ns))))))
theorem sMkN_ok {N0 : Nat} {cs : sM} {d1 d2 : Nat} {go : sGy} {me : sMc} {nx : Nat} {L : sL} {st : List sV} {pa : List sK} {mem : sM} {nc ns : Nat} (h : sMkN N0 cs d1 d2 go me nx L st pa mem nc ns = true) : N0 ≤ mem.length ∧ mem.length ≤ 999000 ∧ sAllL (sBdO mem.length) L = true ∧ sAllL (sBdV mem.length) st = true ∧ sAllL (sBdC mem.length) mem = true ∧ nc + d1 ≤ me.2.2.2.2.1 ∧ ns + d2 ≤ me.2.2.2.2.2 ∧ go nx L (.inr (.inr (some mem.length)) :: st) pa (mem ++ cs) (nc + d1) (ns + d2) = true := by
  unfold sMkN at h
  rw [sFc_eq, sLn_ok] at h
  obtain ⟨h1, h⟩ := sIf_ok h
  obtain ⟨h2, h⟩ := sIf_ok h
  rw [sFc_eq, sFc_eq, sApp_eq] at h
  simp only [sBd, Bool.and_eq_true] at h1 h2
  exact ⟨Nat.le_of_ble_eq_true h1.1, Nat.le_of_ble_eq_true h1.2.1, h1.2.2.1, h1.2.2.2.1, h1.2.2.2.2, Nat.le_of_ble_eq_true h2.1, Nat.le_of_ble_eq_true h2.2, h⟩
noncomputable def sMkA (N0 : Nat) (kd : Nat) (z : sV) (go : sGy) (me : sMc) (nx : Nat) (L : sL) (st : List sV) (pa : List sK) (mem : sM) (nc ns : Nat) : Bool := sTI st (fun x st => sNum x (fun n => sIf (Nat.ble n (nat_lit 100000)) (sMkN N0 [(kd, 0, List.replicate n z)] (nat_lit 1) n go me nx L st pa mem nc ns)))
noncomputable def sMkG (N0 : Nat) (go : sGy) (me : sMc) (nx : Nat) (L : sL) (st : List sV) (pa : List sK) (mem : sM) (nc ns : Nat) : Bool := sTI st (fun x st => sTI st (fun y st => sNum x (fun a => sNum y (fun b => sIf (Bool.and (Nat.beq a (nat_lit 6)) (Nat.beq b (nat_lit 6))) (sFc (sLn mem) (fun n => sMkN N0 (sGrid n) (nat_lit 7) (nat_lit 42) go me nx L st pa mem nc ns))))))
noncomputable def sMkS (go : sGy) (nx : Nat) (L : sL) (st : List sV) (pa : List sK) (mem : sM) (nc ns : Nat) : Bool := sTR st (fun v st => sIx st (fun i q st => sCell mem v (nat_lit 0) (fun cv _ => sIf (Nat.beq cv (nat_lit 5)) (sPuta (nat_lit 5) (.inr (.inr (some v))) i q mem (fun mem => go nx L st pa mem nc ns)))))
noncomputable def sMkP (n : Nat) (go : sGy) (nx : Nat) (L : sL) (st : List sV) (pa : List sK) (mem : sM) (nc ns : Nat) : Bool := sTR st (fun v st => sTR st (fun q st => sPutf n (.inr (.inr (some v))) q mem (fun mem => go nx L st pa mem nc ns)))
/-- a call of a maker -/
noncomputable def sMkD (ih : sIh) (d1 : Nat) (cal : sMc) (go : sGy) (nx : Nat) (L : sL) (st as : List sV) (pa : List sK) (mem : sM) (nc ns : Nat) : Bool := sEnt as cal.2.1 (fun L1 => sFc (sLn mem) (fun n1 => ih d1 cal n1 (fun v pa mem => sPush v st (fun st => sFc (Nat.add nc cal.2.2.2.2.1) (fun nc => sFc (Nat.add ns cal.2.2.2.2.2) (fun ns => go nx L st pa mem nc ns)))) (nat_lit 0) L1 [] pa mem (nat_lit 0) (nat_lit 0)))
noncomputable def sB3 (b : Bool) (f t : Bool) : Bool := Bool.rec (motive := fun _ => Bool) f t b
noncomputable def sMkC (PC : Nat → sMc) (ih : sIh) (d N0 : Nat) (k : Nat) (go : sGy) (me : sMc) (nx : Nat) (L : sL) (st : List sV) (pa : List sK) (mem : sM) (nc ns : Nat) : Bool :=
  Nat.rec (motive := fun _ => Bool) false (fun d1 _ => sPop (PC k).2.2.1 st [] (fun as st => sIf (Nat.ble (sCats st) (nat_lit 8)) (sIf (sBd2 (sLn mem) L st) (sIf (Bool.and (Nat.ble N0 (sLn mem)) (Nat.ble (sLn mem) (nat_lit 999000))) (sIf (Bool.and (Nat.ble (Nat.add nc (PC k).2.2.2.2.1) me.2.2.2.2.1) (Nat.ble (Nat.add ns (PC k).2.2.2.2.2) me.2.2.2.2.2)) (sB3 (Nat.beq (PC k).2.2.2.1 (nat_lit 0)) (sMkD ih d1 (PC k) go nx L st as pa mem nc ns) (sTR as (fun _ _ => sMkD ih d1 (PC k) go nx L st as pa mem nc ns)))))))) d
/-- a call of another method -/
noncomputable def sMkX (FX : Nat) (d : Nat) (k : Nat) (go : sGy) (nx : Nat) (L : sL) (st : List sV) (pa : List sK) (mem : sM) (nc ns : Nat) : Bool :=
  Nat.rec (motive := fun _ => Bool) false (fun d1 _ => (fun cal : sMe => sPop cal.2.2.1 st [] (fun as st => sIf (Nat.ble (sCats st) (nat_lit 8)) (sRecv mem cal.2.2.2.1 as (sEnt as cal.2.1 (fun L1 => sx PG FX d1 cal (fun _ => false) (fun _ _ _ _ _ => false) (fun v pa mem => sPush v st (fun st => go nx L st pa mem nc ns)) (nat_lit 0) L1 [] pa mem))))) (PG k)) d
noncomputable def sMkR (o : Nat) (me : sMc) (kr : sKr) (st : List sV) (pa : List sK) (mem : sM) : Bool := Bool.rec (motive := fun _ => Bool) (sIf (Nat.beq o (nat_lit 3)) (sIf (Nat.beq me.2.2.2.1 (nat_lit 4)) (sTR st (fun x st => sNil st (kr (some (.inr (.inr (some x)))) pa mem))))) (sIf (Nat.beq me.2.2.2.1 (nat_lit 0)) (sNil st (kr none pa mem))) (Nat.beq o (nat_lit 0))
noncomputable def sMk (PC : Nat → sMc) (FX : Nat) (ih : sIh) (d N0 : Nat) (me : sMc) (kr : sKr) (go : sGy) (nx : Nat) (L : sL) (st : List sV) (pa : List sK) (mem : sM) (nc ns : Nat) (t a : Nat) : Bool :=
  sB3 (Nat.beq t (nat_lit 0)) (sB3 (Nat.beq t (nat_lit 1)) (sB3 (Nat.beq t (nat_lit 2)) (sB3 (Nat.beq t (nat_lit 3)) (sB3 (Nat.beq t (nat_lit 4)) (sB3 (Nat.beq t (nat_lit 5)) (sB3 (Nat.beq t (nat_lit 6)) (sB3 (Nat.beq t (nat_lit 7)) (sB3 (Nat.beq t (nat_lit 8)) (sB3 (Nat.beq t (nat_lit 9)) false
    (sMkR a me kr st pa mem))
    (sB3 (Nat.beq a (nat_lit 67)) (sMkX FX d a go nx L st pa mem nc ns) (sMkC PC ih d N0 a go me nx L st pa mem nc ns)))
    (sMkC PC ih d N0 a go me nx L st pa mem nc ns))
    (sTR st (fun _ st => sIf (Nat.ble (sCats st) (nat_lit 8)) (go nx L st pa mem nc ns))))
    (sMkP a go nx L st pa mem nc ns))
    (sMkS go nx L st pa mem nc ns))
    (sMkG N0 go me nx L st pa mem nc ns))
    (sMkA N0 (nat_lit 5) (.inr (.inr none)) go me nx L st pa mem nc ns))
    (sB3 (Nat.beq a (nat_lit 4)) (sMkA N0 a (.inl (.natCast 0)) go me nx L st pa mem nc ns) (sMkA N0 a (.inr (.inl (.natCast 0))) go me nx L st pa mem nc ns)))
    (sMkN N0 [(0, a, sNewF a)] (nat_lit 1) (sNn a) go me nx L st pa mem nc ns)
noncomputable def sy (PC : Nat → sMc) (FX : Nat) (fuel : Nat) : sIh := Nat.rec (motive := fun _ => sIh) (fun _ _ _ _ _ _ _ _ _ _ _ => false)
  (fun _ ih d me N0 kr pc L st pa mem nc ns => Prod.rec (motive := fun _ => Bool) (fun pc1 w => Prod.rec (motive := fun _ => Bool) (fun ir w => sIf (Nat.beq pc pc1) (Sum.rec (motive := fun _ => Bool)
    (fun f => f w.1 L st pa mem (fun pc L st pa mem => ih d me N0 kr pc L st pa mem nc ns))
    (fun z => sMk PC FX ih d N0 me kr (ih d me N0 kr) w.1 L st pa mem nc ns z.1 z.2) (sOq ir))) w) (me.1.get pc)) fuel
theorem sy_step {PC : Nat → sMc} {FX n d N0 : Nat} {me : sMc} {kr : sKr} {pc : Nat} {L : sL} {st : List sV} {pa : List sK} {mem : sM} {nc ns : Nat} (h : sy PC FX (n + 1) d me N0 kr pc L st pa mem nc ns = true) :
    ∃ ir nx aux, me.1.get pc = (pc, ir, nx, aux) ∧ ((∃ f, sOq ir = .inl f ∧ f nx L st pa mem (fun pc L st pa mem => sy PC FX n d me N0 kr pc L st pa mem nc ns) = true) ∨ ∃ t a, sOq ir = .inr (t, a) ∧ sMk PC FX (sy PC FX n) d N0 me kr (sy PC FX n d me N0 kr) nx L st pa mem nc ns t a = true) := by
  obtain ⟨pc1, ir, nx, aux, hg⟩ : ∃ pc1 ir nx aux, me.1.get pc = (pc1, ir, nx, aux) := ⟨_, _, _, _, rfl⟩
  have h2 : sIf (Nat.beq pc pc1) (Sum.rec (motive := fun _ => Bool)
    (fun f => f nx L st pa mem (fun pc L st pa mem => sy PC FX n d me N0 kr pc L st pa mem nc ns))
    (fun z => sMk PC FX (sy PC FX n) d N0 me kr (sy PC FX n d me N0 kr) nx L st pa mem nc ns z.1 z.2) (sOq ir)) = true := by
    have h3 := h
    unfold sy at h3
    simp only [hg] at h3
    exact h3
  obtain ⟨h4, h5⟩ := sIf_ok h2
  have e0 : pc = pc1 := Nat.eq_of_beq_eq_true h4
  subst e0
  refine ⟨ir, nx, aux, hg, ?_⟩
  cases ho : sOq ir with
  | inl f =>
    rw [ho] at h5
    exact Or.inl ⟨f, rfl, h5⟩
  | inr z =>
    rw [ho] at h5
    exact Or.inr ⟨z.1, z.2, rfl, h5⟩
