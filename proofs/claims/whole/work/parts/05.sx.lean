/-! 05: the symbolic executor -/
/-- a condition of the path: (is it an equation, does it hold, x, y): x = y, or x < y, of ints -/
abbrev sK : Type := Bool × Bool × sX × sX
def eqX : sX → sX → Bool
  | .natCast a, .natCast b => Nat.beq a b
  | .var a, .var b => Nat.beq a b
  | .pow a o, .pow b u => Nat.beq o u && eqX a b
  | .mul a b, .mul c d => eqX a c && eqX b d
  | .neg a, .neg b => eqX a b
  | _, _ => false
theorem eqX_ok (x y : sX) (h : eqX x y = true) : x = y := by
  induction x generalizing y with
  | natCast a => cases y <;> simp_all [eqX]
  | var a => cases y <;> simp_all [eqX]
  | pow a o ih =>
    cases y <;> simp_all [eqX]
    exact ih _ h.2
  | mul a b iha ihb =>
    cases y <;> simp_all [eqX]
    exact ⟨iha _ h.1, ihb _ h.2⟩
  | neg a ih =>
    cases y <;> simp_all [eqX]
    exact ih _ h
  | num a => simp [eqX] at h
  | intCast a => simp [eqX] at h
  | add a b iha ihb => simp [eqX] at h
  | sub a b iha ihb => simp [eqX] at h
def sKd (r : sE) (q : sK) : Prop := match q with
  | (true, true, x, y) => sI r x = sI r y
  | (true, false, x, y) => ¬ sI r x = sI r y
  | (false, true, x, y) => sI r x < sI r y
  | (false, false, x, y) => ¬ sI r x < sI r y
/-- what the path says of a question -/
def sAsk (e : Bool) (x y : sX) (ky kn ku : Bool) : List sK → Bool
  | [] => ku
  | (e1, b1, x1, y1) :: l => match Bool.and (Bool.and (Bool.not (Bool.xor e e1)) (eqX x x1)) (eqX y y1) with
    | true => match b1 with
      | true => ky
      | false => kn
    | false => sAsk e x y ky kn ku l
/-- a question: folded, or as the path says, or both ways -/
def sQ (e : Bool) (x y : sX) (pa : List sK) (kt kf : List sK → Bool) : Bool := match x with
  | .natCast a => match y with
    | .natCast b => match (match e with | true => fEq a b | false => fLt a b) with
      | true => kt pa
      | false => kf pa
    | _ => sAsk e x y (kt pa) (kf pa) (Bool.and (kt ((e, true, x, y) :: pa)) (kf ((e, false, x, y) :: pa))) pa
  | _ => sAsk e x y (kt pa) (kf pa) (Bool.and (kt ((e, true, x, y) :: pa)) (kf ((e, false, x, y) :: pa))) pa
abbrev sIn : Type := Nat × Instr × Nat × Nat
abbrev sGo : Type := Nat → sL → List sV → List sK → sM → Bool
/-- a branch by a condition of two ints -/
def sBr (c : Jvm.ClassFile.Cond) (x y : sX) (pa : List sK) (kt kf : List sK → Bool) : Bool := match c with
  | .eq => sQ true x y pa kt kf
  | .ne => sQ true x y pa kf kt
  | .lt => sQ false x y pa kt kf
  | .ge => sQ false x y pa kf kt
  | .gt => sQ false y x pa kt kf
  | .le => sQ false y x pa kf kt
def sSw (x : sX) (pa : List sK) (d : Nat) (go : Nat → List sK → Bool) : List (Int × Int) → Bool
  | [] => go d pa
  | (.ofNat v, .ofNat t) :: l => sQ true x (.natCast v) pa (go t) (fun pa => sSw x pa d go l)
  | _ => false
/-- n places of src from sp on come into dst from dp on -/
def sCopy (src : List sV) (sp : Nat) : Nat → List sV → Nat → (List sV → Bool) → Bool
  | 0, dst, _, k => k dst
  | n + 1, dst, dp, k => sGet src (sp + n) (fun v => sSet dst (dp + n) v (fun dst => sCopy src sp n dst dp k))
def sCat (v : sV) : Nat := match v with
  | .inr (.inl _) => 2
  | _ => 1
def sSim (ir : Instr) (nx : Nat) (L : sL) (st : List sV) (pa : List sK) (mem : sM) (go : sGo) : Bool := match ir with
  | .ldc n => go nx L (.inl (.natCast n) :: st) pa mem
  | .ldc2_w n => go nx L (.inr (.inl (.natCast n)) :: st) pa mem
  | .iload i => sGet L i (fun v => match v with
    | some (.inl x) => go nx L (.inl x :: st) pa mem
    | _ => false)
  | .lload i => sGet L i (fun v => match v with
    | some (.inr (.inl x)) => go nx L (.inr (.inl x) :: st) pa mem
    | _ => false)
  | .aload i => sGet L i (fun v => match v with
    | some (.inr (.inr (some x))) => go nx L (.inr (.inr (some x)) :: st) pa mem
    | _ => false)
  | .istore i => match st with
    | .inl x :: st => sPut1 L i (.inl x) (fun L => go nx L st pa mem)
    | _ => false
  | .lstore i => match st with
    | .inr (.inl x) :: st => sPut2 L i (.inr (.inl x)) (fun L => go nx L st pa mem)
    | _ => false
  | .astore i => match st with
    | .inr (.inr (some x)) :: st => sPut1 L i (.inr (.inr (some x))) (fun L => go nx L st pa mem)
    | _ => false
  | .iinc i (.ofNat n) => sGet L i (fun v => match v with
    | some (.inl x) => sBin 0 fAdd x (.natCast n) (fun z => sPut1 L i (.inl z) (fun L => go nx L st pa mem))
    | _ => false)
  | .iadd => match st with
    | .inl y :: .inl x :: st => sBin 0 fAdd x y (fun z => go nx L (.inl z :: st) pa mem)
    | _ => false
  | .isub => match st with
    | .inl y :: .inl x :: st => sBin 1 fSub x y (fun z => go nx L (.inl z :: st) pa mem)
    | _ => false
  | .imul => match st with
    | .inl y :: .inl x :: st => sBin 2 fMul x y (fun z => go nx L (.inl z :: st) pa mem)
    | _ => false
  | .iand => match st with
    | .inl y :: .inl x :: st => sBin 3 fAnd x y (fun z => go nx L (.inl z :: st) pa mem)
    | _ => false
  | .ior => match st with
    | .inl y :: .inl x :: st => sBin 4 fOr x y (fun z => go nx L (.inl z :: st) pa mem)
    | _ => false
  | .ixor => match st with
    | .inl y :: .inl x :: st => sBin 5 (fI (fun a b => a ^^^ b)) x y (fun z => go nx L (.inl z :: st) pa mem)
    | _ => false
  | .ishl => match st with
    | .inl y :: .inl x :: st => sBin 6 (fI (fun a b => a <<< (b &&& 31))) x y (fun z => go nx L (.inl z :: st) pa mem)
    | _ => false
  | .ishr => match st with
    | .inl y :: .inl x :: st => sBin 7 (fI (fun a b => a >>> (b &&& 31))) x y (fun z => go nx L (.inl z :: st) pa mem)
    | _ => false
  | .iushr => match st with
    | .inl y :: .inl x :: st => sBin 8 (fI (fun a b => (a.toUInt32 >>> (b.toUInt32 &&& Int32.toUInt32 31)).toInt32)) x y (fun z => go nx L (.inl z :: st) pa mem)
    | _ => false
  | .irem => match st with
    | .inl (.natCast b) :: .inl x :: st => match fEq b 0 with
      | true => false
      | false => sBin 9 (fI (fun a b => a - a / b * b)) x (.natCast b) (fun z => go nx L (.inl z :: st) pa mem)
    | _ => false
  | .ineg => match st with
    | .inl x :: st => sUn 0 (fun a => fN (-Int32.ofNat a)) x (fun z => go nx L (.inl z :: st) pa mem)
    | _ => false
  | .i2b => match st with
    | .inl x :: st => sUn 1 (fun a => fN (Int32.ofNat a).toInt8.toInt32) x (fun z => go nx L (.inl z :: st) pa mem)
    | _ => false
  | .l2i => match st with
    | .inr (.inl x) :: st => sUn 4 (fun a => fN (Int64.ofNat a).toInt32) x (fun z => go nx L (.inl z :: st) pa mem)
    | _ => false
  | .i2l => match st with
    | .inl x :: st => sUn 21 (fun a => gN (Int32.ofNat a).toInt64) x (fun z => go nx L (.inr (.inl z) :: st) pa mem)
    | _ => false
  | .lneg => match st with
    | .inr (.inl x) :: st => sUn 20 (fun a => gN (-Int64.ofNat a)) x (fun z => go nx L (.inr (.inl z) :: st) pa mem)
    | _ => false
  | .ladd => match st with
    | .inr (.inl y) :: .inr (.inl x) :: st => sBin 20 (fJ (fun a b => a + b)) x y (fun z => go nx L (.inr (.inl z) :: st) pa mem)
    | _ => false
  | .lsub => match st with
    | .inr (.inl y) :: .inr (.inl x) :: st => sBin 21 (fJ (fun a b => a - b)) x y (fun z => go nx L (.inr (.inl z) :: st) pa mem)
    | _ => false
  | .lmul => match st with
    | .inr (.inl y) :: .inr (.inl x) :: st => sBin 22 (fJ (fun a b => a * b)) x y (fun z => go nx L (.inr (.inl z) :: st) pa mem)
    | _ => false
  | .lor => match st with
    | .inr (.inl y) :: .inr (.inl x) :: st => sBin 24 (fJ (fun a b => a ||| b)) x y (fun z => go nx L (.inr (.inl z) :: st) pa mem)
    | _ => false
  | .lshr => match st with
    | .inl y :: .inr (.inl x) :: st => sBin 27 (fun a b => gN (Int64.ofNat a >>> ((Int32.ofNat b).toInt64 &&& 63))) x y (fun z => go nx L (.inr (.inl z) :: st) pa mem)
    | _ => false
  | .lushr => match st with
    | .inl y :: .inr (.inl x) :: st => sBin 28 (fun a b => gN ((Int64.ofNat a).toUInt64 >>> ((Int32.ofNat b).toInt64.toUInt64 &&& Int64.toUInt64 63)).toInt64) x y (fun z => go nx L (.inr (.inl z) :: st) pa mem)
    | _ => false
  | .ldiv => match st with
    | .inr (.inl (.natCast b)) :: .inr (.inl x) :: st => match Nat.beq (b % 18446744073709551616) 0 with
      | true => false
      | false => sBin 29 (fJ (fun a b => a / b)) x (.natCast b) (fun z => go nx L (.inr (.inl z) :: st) pa mem)
    | _ => false
  | .lrem => match st with
    | .inr (.inl (.natCast b)) :: .inr (.inl x) :: st => match Nat.beq (b % 18446744073709551616) 0 with
      | true => false
      | false => sBin 30 (fJ (fun a b => a - a / b * b)) x (.natCast b) (fun z => go nx L (.inr (.inl z) :: st) pa mem)
    | _ => false
  | .lcmp => match st with
    | .inr (.inl y) :: .inr (.inl x) :: st => sBin 10 (fun a b => fN (lg_cmp (Int64.ofNat a) (Int64.ofNat b))) x y (fun z => go nx L (.inl z :: st) pa mem)
    | _ => false
  | .dup => match st with
    | v :: st => match sCat v with
      | 1 => go nx L (v :: v :: st) pa mem
      | _ => false
    | _ => false
  | .dup2 => match st with
    | v :: w :: st => match sCat v with
      | 1 => match sCat w with
        | 1 => go nx L (v :: w :: v :: w :: st) pa mem
        | _ => false
      | _ => false
    | _ => false
  | .goto (.ofNat t) => go t L st pa mem
  | .ifCond c (.ofNat t) => match st with
    | .inl x :: st => sBr c x (.natCast 0) pa (fun pa => go t L st pa mem) (fun pa => go nx L st pa mem)
    | _ => false
  | .if_icmp c (.ofNat t) => match st with
    | .inl y :: .inl x :: st => sBr c x y pa (fun pa => go t L st pa mem) (fun pa => go nx L st pa mem)
    | _ => false
  | .lookupswitch (.ofNat d) ps => match st with
    | .inl x :: st => sSw x pa d (fun t pa => go t L st pa mem) ps.toList
    | _ => false
  | .getfield n => match st with
    | .inr (.inr (some q)) :: st => sGet mem q (fun c => match c with
      | (0, ci, vs) => match Nat.beq ci (n / 64) with
        | true => sGet vs (n % 64) (fun v => go nx L (v :: st) pa mem)
        | false => false
      | _ => false)
    | _ => false
  | .putfield n => match st with
    | .inl v :: .inr (.inr (some q)) :: st => sGet mem q (fun c => match c with
      | (0, ci, vs) => match Nat.beq ci (n / 64) with
        | true => sSet vs (n % 64) (.inl v) (fun vs => sSet mem q (0, ci, vs) (fun mem => go nx L st pa mem))
        | false => false
      | _ => false)
    | _ => false
  | .putstatic n => match st with
    | .inl (.natCast b) :: .inr (.inr (some q)) :: st => match Nat.ble b 1 with
      | true => sGet mem q (fun c => match c with
        | (0, ci, vs) => match Nat.beq ci (n / 64) with
          | true => sSet vs (n % 64) (.inl (.natCast b)) (fun vs => sSet mem q (0, ci, vs) (fun mem => go nx L st pa mem))
          | false => false
        | _ => false)
      | false => false
    | _ => false
  | .instanceof n => match st with
    | .inr (.inl v) :: .inr (.inr (some q)) :: st => sGet mem q (fun c => match c with
      | (0, ci, vs) => match Nat.beq ci (n / 64) with
        | true => sSet vs (n % 64) (.inr (.inl v)) (fun vs => sSet mem q (0, ci, vs) (fun mem => go nx L st pa mem))
        | false => false
      | _ => false)
    | _ => false
  | .checkcast n => match st with
    | .inr (.inr (some v)) :: .inr (.inr (some q)) :: st => sGet mem q (fun c => match c with
      | (0, ci, vs) => match Nat.beq ci (n / 64) with
        | true => sSet vs (n % 64) (.inr (.inr (some v))) (fun vs => sSet mem q (0, ci, vs) (fun mem => go nx L st pa mem))
        | false => false
      | _ => false)
    | _ => false
  | .getstatic j => go nx L (.inr (.inr (some (1000000 + j))) :: st) pa mem
  | .iaload => match st with
    | .inl (.natCast i) :: .inr (.inr (some q)) :: st => match Nat.blt q 1000000 with
      | true => match Nat.blt i 2147483648 with
        | true => sGet mem q (fun c => match c with
          | (1, _, vs) => sGet vs i (fun v => match v with
            | .inl x => go nx L (.inl x :: st) pa mem
            | _ => false)
          | _ => false)
        | false => false
      | false => match Nat.beq q 1000000 with
        | true => sGet sBegin i (fun v => go nx L (.inl (.natCast v) :: st) pa mem)
        | false => match Nat.beq q 1000001 with
          | true => sGet sCodes i (fun v => go nx L (.inl (.natCast v) :: st) pa mem)
          | false => false
    | _ => false
  | .baload => match st with
    | .inl (.natCast i) :: .inr (.inr (some q)) :: st => match Nat.blt i 2147483648 with
      | true => sGet mem q (fun c => match c with
        | (2, _, vs) => sGet vs i (fun v => match v with
          | .inl x => go nx L (.inl x :: st) pa mem
          | _ => false)
        | (3, _, vs) => sGet vs i (fun v => match v with
          | .inl x => go nx L (.inl x :: st) pa mem
          | _ => false)
        | _ => false)
      | false => false
    | _ => false
  | .laload => match st with
    | .inl (.natCast i) :: .inr (.inr (some q)) :: st => match Nat.blt i 2147483648 with
      | true => sGet mem q (fun c => match c with
        | (4, _, vs) => sGet vs i (fun v => match v with
          | .inr (.inl x) => go nx L (.inr (.inl x) :: st) pa mem
          | _ => false)
        | _ => false)
      | false => false
    | _ => false
  | .aaload => match st with
    | .inl (.natCast i) :: .inr (.inr (some q)) :: st => match Nat.blt i 2147483648 with
      | true => sGet mem q (fun c => match c with
        | (5, _, vs) => sGet vs i (fun v => match v with
          | .inr (.inr (some x)) => go nx L (.inr (.inr (some x)) :: st) pa mem
          | _ => false)
        | (6, _, vs) => sGet vs i (fun v => match v with
          | .inr (.inr (some x)) => go nx L (.inr (.inr (some x)) :: st) pa mem
          | _ => false)
        | _ => false)
      | false => false
    | _ => false
  | .iastore => match st with
    | .inl x :: .inl (.natCast i) :: .inr (.inr (some q)) :: st => match Nat.blt i 2147483648 with
      | true => sGet mem q (fun c => match c with
        | (1, u, vs) => sSet vs i (.inl x) (fun vs => sSet mem q (1, u, vs) (fun mem => go nx L st pa mem))
        | _ => false)
      | false => false
    | _ => false
  | .bastore => match st with
    | .inl x :: .inl (.natCast i) :: .inr (.inr (some q)) :: st => match Nat.blt i 2147483648 with
      | true => sGet mem q (fun c => match c with
        | (2, u, vs) => sUn 2 (fun a => fN (vp_nar .byte (Int32.ofNat a))) x (fun x => sSet vs i (.inl x) (fun vs => sSet mem q (2, u, vs) (fun mem => go nx L st pa mem)))
        | (3, u, vs) => sUn 3 (fun a => fN (vp_nar .boolean (Int32.ofNat a))) x (fun x => sSet vs i (.inl x) (fun vs => sSet mem q (3, u, vs) (fun mem => go nx L st pa mem)))
        | _ => false)
      | false => false
    | _ => false
  | .lastore => match st with
    | .inr (.inl x) :: .inl (.natCast i) :: .inr (.inr (some q)) :: st => match Nat.blt i 2147483648 with
      | true => sGet mem q (fun c => match c with
        | (4, u, vs) => sSet vs i (.inr (.inl x)) (fun vs => sSet mem q (4, u, vs) (fun mem => go nx L st pa mem))
        | _ => false)
      | false => false
    | _ => false
  | _ => false
