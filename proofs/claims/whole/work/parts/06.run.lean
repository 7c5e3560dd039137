/-! 06: the executor with calls -/
/-- a method: its instructions; maxLocals, how many arguments (this among them), its class' number where it is called on an object (else 99), what it returns (0 nothing, 1 int, 2 boolean, 3 long, 4 a reference) -/
abbrev sMe : Type := Lean.RArray sIn × Nat × Nat × Nat × Nat
noncomputable def sPop (n : Nat) : List sV → List sV → (List sV → List sV → Bool) → Bool := Nat.rec (motive := fun _ => List sV → List sV → (List sV → List sV → Bool) → Bool) (fun st as k => k as st) (fun _ ih st as k => sTop st (fun v st => ih st (v :: as) k)) n
/-- the locals at a method's entry -/
noncomputable def sEnt (as : List sV) : Nat → (sL → Bool) → Bool := List.rec (motive := fun _ => Nat → (sL → Bool) → Bool) (fun n k => Nat.rec (motive := fun _ => (sL → Bool) → Bool) (fun k => k []) (fun _ ih k => ih (fun L => k (none :: L))) n k)
  (fun v _ ih n k => Bool.rec (motive := fun _ => Bool)
    (Nat.rec (motive := fun _ => Bool) false (fun m _ => Nat.rec (motive := fun _ => Bool) false (fun m _ => ih m (fun L => k (some v :: none :: L))) m) n)
    (Nat.rec (motive := fun _ => Bool) false (fun m _ => ih m (fun L => k (some v :: L))) n) (Nat.beq (sCat v) (nat_lit 1))) as
noncomputable def sRecv (mem : sM) (ci : Nat) (as : List sV) (k : Bool) : Bool := Bool.rec (motive := fun _ => Bool) (sTR as (fun q _ => sCell mem q (nat_lit 0) (fun cj _ => sIf (Nat.beq cj ci) k))) k (Nat.beq ci (nat_lit 99))
abbrev sKr : Type := Option sV → List sK → sM → Bool
abbrev sKs : Type := Nat → sL → List sV → List sK → sM → Bool
noncomputable def sRet (rk o : Nat) (st : List sV) (k : Option sV → Bool) : Bool :=
  Bool.rec (motive := fun _ => Bool)
    (Bool.rec (motive := fun _ => Bool)
      (Bool.rec (motive := fun _ => Bool)
        (sIf (Nat.beq o (nat_lit 3)) (sTR st (fun x st => sNil st (sIf (Nat.beq rk (nat_lit 4)) (k (some (.inr (.inr (some x)))))))))
        (sTL st (fun x st => sNil st (sIf (Nat.beq rk (nat_lit 3)) (k (some (.inr (.inl x))))))) (Nat.beq o (nat_lit 2)))
      (sTI st (fun x st => sNil st (Bool.rec (motive := fun _ => Bool) (sIf (Nat.beq rk (nat_lit 2)) (sNum x (fun n => sIf (Nat.ble n (nat_lit 1)) (k (some (.inl (.natCast n))))))) (k (some (.inl x))) (Nat.beq rk (nat_lit 1))))) (Nat.beq o (nat_lit 1)))
    (sIf (Nat.beq rk (nat_lit 0)) (sNil st (k none))) (Nat.beq o (nat_lit 0))
noncomputable def sPush (v : Option sV) (st : List sV) (k : List sV → Bool) : Bool := Option.rec (motive := fun _ => Bool) (k st) (fun v => k (v :: st)) v
/-- the executor: fuel, depth, the method, where to stop, what to do there and at the end -/
noncomputable def sx (PG : Nat → sMe) (fuel : Nat) : Nat → sMe → (Nat → Bool) → sKs → sKr → sGo := Nat.rec (motive := fun _ => Nat → sMe → (Nat → Bool) → sKs → sKr → sGo)
  (fun _ _ _ _ _ _ _ _ _ _ => false)
  (fun _ ih d me stop ks kr pc L st pa mem => Bool.rec (motive := fun _ => Bool)
    (Prod.rec (motive := fun _ => Bool) (fun pc1 w => Prod.rec (motive := fun _ => Bool) (fun ir w => sIf (Nat.beq pc pc1) (Sum.rec (motive := fun _ => Bool)
      (fun h => h w.1 L st pa mem (ih d me stop ks kr))
      (fun z => Sum.rec (motive := fun _ => Bool)
        (fun mi => Nat.rec (motive := fun _ => Bool) false (fun d1 _ => (fun cal : sMe => sPop cal.2.2.1 st [] (fun as st => sIf (Nat.ble (sCats st) (nat_lit 8)) (sRecv mem cal.2.2.2.1 as (sEnt as cal.2.1 (fun L1 =>
          ih d1 cal (fun _ => false) (fun _ _ _ _ _ => false) (fun v pa mem => sPush v st (fun st => ih d me stop ks kr w.1 L st pa mem)) (nat_lit 0) L1 [] pa mem))))) (PG mi)) d)
        (fun o => sRet me.2.2.2.2 o st (fun v => kr v pa mem)) z) (sOp ir))) w) (me.1.get pc))
    (ks pc L st pa mem) (stop pc)) fuel
