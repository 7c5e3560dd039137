/-! 03: expressions of the symbolic executor: constants, variables, operations; their meaning; folding of constants -/
abbrev sX : Type := Lean.Grind.CommRing.Expr
abbrev sE : Type := (Nat → Int32) × (Nat → Int64)
def sB (o : Nat) (a b : Int32 × Int64) : Int32 × Int64 := match o with
  | 0 => (a.1 + b.1, 0)
  | 1 => (a.1 - b.1, 0)
  | 2 => (a.1 * b.1, 0)
  | 3 => (a.1 &&& b.1, 0)
  | 4 => (a.1 ||| b.1, 0)
  | 5 => (a.1 ^^^ b.1, 0)
  | 6 => (a.1 <<< (b.1 &&& 31), 0)
  | 7 => (a.1 >>> (b.1 &&& 31), 0)
  | 8 => ((a.1.toUInt32 >>> (b.1.toUInt32 &&& Int32.toUInt32 31)).toInt32, 0)
  | 9 => (a.1 - a.1 / b.1 * b.1, 0)
  | 10 => (lg_cmp a.2 b.2, 0)
  | 20 => (0, a.2 + b.2)
  | 21 => (0, a.2 - b.2)
  | 22 => (0, a.2 * b.2)
  | 24 => (0, a.2 ||| b.2)
  | 27 => (0, a.2 >>> (b.1.toInt64 &&& 63))
  | 28 => (0, (a.2.toUInt64 >>> (b.1.toInt64.toUInt64 &&& Int64.toUInt64 63)).toInt64)
  | 29 => (0, a.2 / b.2)
  | 30 => (0, a.2 - a.2 / b.2 * b.2)
  | _ => (0, 0)
def sU (o : Nat) (a : Int32 × Int64) : Int32 × Int64 := match o with
  | 0 => (-a.1, 0)
  | 1 => (a.1.toInt8.toInt32, 0)
  | 2 => (vp_nar .byte a.1, 0)
  | 3 => (vp_nar .boolean a.1, 0)
  | 4 => (a.2.toInt32, 0)
  | 20 => (0, -a.2)
  | 21 => (0, a.1.toInt64)
  | 22 => (0, if 0 < a.2 then a.2 else -a.2)
  | _ => (0, 0)
def sD (r : sE) : sX → Int32 × Int64
  | .natCast k => (Int32.ofNat k, Int64.ofNat k)
  | .var i => (r.1 i, r.2 i)
  | .pow (.mul x y) o => sB o (sD r x) (sD r y)
  | .pow (.neg x) o => sU o (sD r x)
  | _ => (0, 0)
theorem sD_c (r : sE) (k : Nat) : sD r (.natCast k) = (Int32.ofNat k, Int64.ofNat k) := by rw [sD]
theorem sD_v (r : sE) (i : Nat) : sD r (.var i) = (r.1 i, r.2 i) := by rw [sD]
theorem sD_b (r : sE) (x y : sX) (o : Nat) : sD r (.pow (.mul x y) o) = sB o (sD r x) (sD r y) := by rw [sD]
theorem sD_u (r : sE) (x : sX) (o : Nat) : sD r (.pow (.neg x) o) = sU o (sD r x) := by rw [sD]
abbrev sI (r : sE) (x : sX) : Int32 := (sD r x).1
abbrev sJ (r : sE) (x : sX) : Int64 := (sD r x).2
-- folding
def fN (x : Int32) : Nat := x.toUInt32.toNat
def gN (x : Int64) : Nat := x.toUInt64.toNat
theorem fN_ok (x : Int32) : Int32.ofNat (fN x) = x := by
  unfold fN
  rw [← Int32.toBitVec_inj]
  simp
theorem gN_ok (x : Int64) : Int64.ofNat (gN x) = x := by
  unfold gN
  rw [← Int64.toBitVec_inj]
  simp
def fAdd (a b : Nat) : Nat := Nat.mod (Nat.add a b) (nat_lit 4294967296)
def fSub (a b : Nat) : Nat := Nat.mod (Nat.add a (Nat.sub (nat_lit 4294967296) (Nat.mod b (nat_lit 4294967296)))) (nat_lit 4294967296)
def fMul (a b : Nat) : Nat := Nat.mod (Nat.mul a b) (nat_lit 4294967296)
def fAnd (a b : Nat) : Nat := Nat.land a b
def fOr (a b : Nat) : Nat := Nat.lor a b
def fLt (a b : Nat) : Bool := Nat.ble (Nat.succ (Nat.mod (Nat.add a (nat_lit 2147483648)) (nat_lit 4294967296))) (Nat.mod (Nat.add b (nat_lit 2147483648)) (nat_lit 4294967296))
def fEq (a b : Nat) : Bool := Nat.beq (Nat.mod a (nat_lit 4294967296)) (Nat.mod b (nat_lit 4294967296))
theorem f_mod (a : Nat) : Int32.ofNat (a % 4294967296) = Int32.ofNat a := by
  rw [← Int32.toBitVec_inj]
  simp [BitVec.toNat_inj.symm]
theorem fAdd_ok (a b : Nat) : Int32.ofNat (fAdd a b) = Int32.ofNat a + Int32.ofNat b := by
  show Int32.ofNat ((a + b) % 4294967296) = _
  rw [f_mod, Int32.ofNat_add]
theorem fMul_ok (a b : Nat) : Int32.ofNat (fMul a b) = Int32.ofNat a * Int32.ofNat b := by
  show Int32.ofNat ((a * b) % 4294967296) = _
  rw [f_mod, Int32.ofNat_mul]
theorem fSub_ok (a b : Nat) : Int32.ofNat (fSub a b) = Int32.ofNat a - Int32.ofNat b := by
  show Int32.ofNat ((a + (4294967296 - b % 4294967296)) % 4294967296) = _
  rw [f_mod, ← Int32.toInt_inj]
  simp only [Int32.toInt_sub, Int32.toInt_ofNat']
  have h : (((a + (4294967296 - b % 4294967296) : Nat)) : Int) = (a : Int) - (b : Int) + 4294967296 * (1 + (b : Int) / 4294967296) := by omega
  rw [h]
  simp only [Int.bmod_def, show (Int32.size : Int) = 4294967296 from rfl, show ((Int32.size : Nat) : Int) = 4294967296 from rfl]
  omega
theorem fAnd_ok (a b : Nat) : Int32.ofNat (fAnd a b) = Int32.ofNat a &&& Int32.ofNat b := by
  unfold fAnd
  rw [← Int32.toBitVec_inj]
  show BitVec.ofNat 32 (a &&& b) = BitVec.ofNat 32 a &&& BitVec.ofNat 32 b
  exact BitVec.ofNat_and
theorem fOr_ok (a b : Nat) : Int32.ofNat (fOr a b) = Int32.ofNat a ||| Int32.ofNat b := by
  unfold fOr
  rw [← Int32.toBitVec_inj]
  show BitVec.ofNat 32 (a ||| b) = BitVec.ofNat 32 a ||| BitVec.ofNat 32 b
  exact BitVec.ofNat_or
theorem fLt_ok (a b : Nat) : fLt a b = true ↔ Int32.ofNat a < Int32.ofNat b := by
  show Nat.ble ((a + 2147483648) % 4294967296 + 1) ((b + 2147483648) % 4294967296) = true ↔ _
  rw [Int32.lt_iff_toInt_lt]
  simp only [Int32.toInt_ofNat', Nat.ble_eq, Int.bmod_def, show ((Int32.size : Nat) : Int) = 4294967296 from rfl]
  omega
theorem fEq_ok (a b : Nat) : fEq a b = true ↔ Int32.ofNat a = Int32.ofNat b := by
  show Nat.beq (a % 4294967296) (b % 4294967296) = true ↔ _
  rw [← Int32.toInt_inj]
  simp only [Int32.toInt_ofNat', Nat.beq_eq, Int.bmod_def, show ((Int32.size : Nat) : Int) = 4294967296 from rfl]
  omega
-- strict evaluation by continuations; recursors written out, for the kernel
noncomputable def sFc (n : Nat) (k : Nat → Bool) : Bool := Nat.rec (motive := fun _ => Bool) (k (nat_lit 0)) (fun m _ => k (Nat.succ m)) n
theorem sFc_eq (n : Nat) (k : Nat → Bool) : sFc n k = k n := by cases n <;> rfl
noncomputable def sIf (b : Bool) (k : Bool) : Bool := Bool.rec (motive := fun _ => Bool) false k b
theorem sIf_ok {b k : Bool} (h : sIf b k = true) : b = true ∧ k = true := by
  cases b
  · exact nomatch (show false = true from h)
  · exact ⟨rfl, h⟩
noncomputable def sGet {α : Type} (l : List α) : Nat → (α → Bool) → Bool := List.rec (motive := fun _ => Nat → (α → Bool) → Bool) (fun _ _ => false) (fun a _ ih n k => Nat.rec (motive := fun _ => Bool) (k a) (fun m _ => ih m k) n) l
theorem sGet_ok {α : Type} (l : List α) : ∀ (i : Nat) (k : α → Bool), sGet l i k = true → ∃ a, l[i]? = some a ∧ k a = true := by
  induction l with
  | nil => intro i k h; exact absurd h (by simp [sGet])
  | cons a l ih =>
    intro i k h
    cases i with
    | zero => exact ⟨a, rfl, h⟩
    | succ n =>
      obtain ⟨b, h1, h2⟩ := ih n k h
      exact ⟨b, by simpa using h1, h2⟩
noncomputable def sSet {α : Type} (l : List α) : Nat → α → (List α → Bool) → Bool := List.rec (motive := fun _ => Nat → α → (List α → Bool) → Bool) (fun _ _ _ => false) (fun a l ih n v k => Nat.rec (motive := fun _ => Bool) (k (v :: l)) (fun m _ => ih m v (fun l' => k (a :: l'))) n) l
theorem sSet_ok {α : Type} (l : List α) : ∀ (i : Nat) (v : α) (k : List α → Bool), sSet l i v k = true → i < l.length ∧ k (l.set i v) = true := by
  induction l with
  | nil => intro i v k h; exact absurd h (by simp [sSet])
  | cons a l ih =>
    intro i v k h
    cases i with
    | zero => exact ⟨by simp, h⟩
    | succ n =>
      obtain ⟨h1, h2⟩ := ih n v _ h
      exact ⟨by simpa using h1, h2⟩
/-- a constant -/
noncomputable def sNum (x : sX) (k : Nat → Bool) : Bool := Lean.Grind.CommRing.Expr.rec (motive := fun _ => Bool) (fun _ => false) (fun a => k a) (fun _ => false) (fun _ => false) (fun _ _ => false) (fun _ _ _ _ => false) (fun _ _ _ _ => false) (fun _ _ _ _ => false) (fun _ _ _ => false) x
theorem sNum_ok {x : sX} {k : Nat → Bool} (h : sNum x k = true) : ∃ a, x = .natCast a ∧ k a = true := by
  cases x <;> first | exact ⟨_, rfl, h⟩ | exact absurd h (by simp [sNum])
/-- a constant, or else -/
noncomputable def sNumE (x : sX) (k : Nat → Bool) (u : Bool) : Bool := Lean.Grind.CommRing.Expr.rec (motive := fun _ => Bool) (fun _ => u) (fun a => k a) (fun _ => u) (fun _ => u) (fun _ _ => u) (fun _ _ _ _ => u) (fun _ _ _ _ => u) (fun _ _ _ _ => u) (fun _ _ _ => u) x
theorem sNumE_ok {x : sX} {k : Nat → Bool} {u : Bool} (h : sNumE x k u = true) : (∃ a, x = .natCast a ∧ k a = true) ∨ u = true := by
  cases x <;> first | exact Or.inl ⟨_, rfl, h⟩ | exact Or.inr h
/-- an operation of two: folded where both are constants -/
noncomputable def sBin (o : Nat) (f : Nat → Nat → Nat) (x y : sX) (k : sX → Bool) : Bool := sNumE x (fun a => sNumE y (fun b => sFc (f a b) (fun n => k (.natCast n))) (k (.pow (.mul x y) o))) (k (.pow (.mul x y) o))
theorem sBin_ok {o : Nat} {f : Nat → Nat → Nat} {x y : sX} {k : sX → Bool} (h : sBin o f x y k = true) : (∃ a b, x = .natCast a ∧ y = .natCast b ∧ k (.natCast (f a b)) = true) ∨ k (.pow (.mul x y) o) = true := by
  rcases sNumE_ok h with ⟨a, ha, h⟩ | h
  · rcases sNumE_ok h with ⟨b, hb, h⟩ | h
    · rw [sFc_eq] at h
      exact Or.inl ⟨_, _, ha, hb, h⟩
    · exact Or.inr h
  · exact Or.inr h
noncomputable def sUn (o : Nat) (f : Nat → Nat) (x : sX) (k : sX → Bool) : Bool := sNumE x (fun a => sFc (f a) (fun n => k (.natCast n))) (k (.pow (.neg x) o))
theorem sUn_ok {o : Nat} {f : Nat → Nat} {x : sX} {k : sX → Bool} (h : sUn o f x k = true) : (∃ a, x = .natCast a ∧ k (.natCast (f a)) = true) ∨ k (.pow (.neg x) o) = true := by
  rcases sNumE_ok h with ⟨a, ha, h⟩ | h
  · rw [sFc_eq] at h
    exact Or.inl ⟨_, ha, h⟩
  · exact Or.inr h
def fI (f : Int32 → Int32 → Int32) (a b : Nat) : Nat := fN (f (Int32.ofNat a) (Int32.ofNat b))
def fJ (f : Int64 → Int64 → Int64) (a b : Nat) : Nat := gN (f (Int64.ofNat a) (Int64.ofNat b))
/-- of ints: the answer's meaning is the operation's -/
theorem sBin_I {r : sE} {o : Nat} {f : Nat → Nat → Nat} {g : Int32 → Int32 → Int32} (ho : ∀ a b, (sB o a b).1 = g a.1 b.1) (hf : ∀ a b, Int32.ofNat (f a b) = g (Int32.ofNat a) (Int32.ofNat b)) {x y : sX} {k : sX → Bool} (h : sBin o f x y k = true) : ∃ z, sI r z = g (sI r x) (sI r y) ∧ k z = true := by
  rcases sBin_ok h with ⟨a, b, rfl, rfl, h2⟩ | h2
  · exact ⟨.natCast (f a b), by simp only [sI, sJ, sD_c]; exact hf a b, h2⟩
  · exact ⟨.pow (.mul x y) o, by simp only [sI, sJ, sD_b]; exact ho _ _, h2⟩
theorem sBin_J {r : sE} {o : Nat} {f : Nat → Nat → Nat} {g : Int64 → Int64 → Int64} (ho : ∀ a b, (sB o a b).2 = g a.2 b.2) (hf : ∀ a b, Int64.ofNat (f a b) = g (Int64.ofNat a) (Int64.ofNat b)) {x y : sX} {k : sX → Bool} (h : sBin o f x y k = true) : ∃ z, sJ r z = g (sJ r x) (sJ r y) ∧ k z = true := by
  rcases sBin_ok h with ⟨a, b, rfl, rfl, h2⟩ | h2
  · exact ⟨.natCast (f a b), by simp only [sI, sJ, sD_c]; exact hf a b, h2⟩
  · exact ⟨.pow (.mul x y) o, by simp only [sI, sJ, sD_b]; exact ho _ _, h2⟩
theorem sUn_I {r : sE} {o : Nat} {f : Nat → Nat} {g : Int32 → Int32} (ho : ∀ a, (sU o a).1 = g a.1) (hf : ∀ a, Int32.ofNat (f a) = g (Int32.ofNat a)) {x : sX} {k : sX → Bool} (h : sUn o f x k = true) : ∃ z, sI r z = g (sI r x) ∧ k z = true := by
  rcases sUn_ok h with ⟨a, rfl, h2⟩ | h2
  · exact ⟨.natCast (f a), by simp only [sI, sD_c]; exact hf a, h2⟩
  · exact ⟨.pow (.neg x) o, by simp only [sI, sD_u]; exact ho _, h2⟩
theorem sUn_J {r : sE} {o : Nat} {f : Nat → Nat} {g : Int64 → Int64} (ho : ∀ a, (sU o a).2 = g a.2) (hf : ∀ a, Int64.ofNat (f a) = g (Int64.ofNat a)) {x : sX} {k : sX → Bool} (h : sUn o f x k = true) : ∃ z, sJ r z = g (sJ r x) ∧ k z = true := by
  rcases sUn_ok h with ⟨a, rfl, h2⟩ | h2
  · exact ⟨.natCast (f a), by simp only [sJ, sD_c]; exact hf a, h2⟩
  · exact ⟨.pow (.neg x) o, by simp only [sJ, sD_u]; exact ho _, h2⟩
def fShrG (a b : Nat) : Nat := fI (fun a b => a >>> (b &&& 31)) a b
def fShr (a b : Nat) : Nat := match Bool.and (Nat.blt a 2147483648) (Nat.blt b 32) with
  | true => Nat.shiftRight a b
  | false => fShrG a b
theorem f_sh (b : Nat) (hb : b < 32) : ((Int32.ofNat b &&& 31).toBitVec.smod 32).toNat = b := by
  have h : ∀ b, b < 32 → ((Int32.ofNat b &&& 31).toBitVec.smod 32).toNat = b := by decide +kernel
  exact h b hb
theorem fShr_ok (a b : Nat) : Int32.ofNat (fShr a b) = Int32.ofNat a >>> (Int32.ofNat b &&& 31) := by
  unfold fShr
  split
  · rename_i h
    simp only [Bool.and_eq_true, Nat.blt_eq] at h
    obtain ⟨ha, hb⟩ := h
    rw [← Int32.toBitVec_inj]
    show BitVec.ofNat 32 (a >>> b) = (BitVec.ofNat 32 a).sshiftRight ((Int32.ofNat b &&& 31).toBitVec.smod 32).toNat
    rw [f_sh b hb, BitVec.sshiftRight_eq_of_msb_false (by rw [BitVec.msb_eq_decide]; simp; omega)]
    apply BitVec.eq_of_toNat_eq
    simp only [BitVec.toNat_ofNat, BitVec.toNat_ushiftRight]
    have h1 : a >>> b ≤ a := Nat.shiftRight_le a b
    rw [Nat.mod_eq_of_lt (by omega), Nat.mod_eq_of_lt (by omega)]
  · exact fN_ok _
def fShlG (a b : Nat) : Nat := fI (fun a b => a <<< (b &&& 31)) a b
def fShl (a b : Nat) : Nat := match Nat.blt b 32 with
  | true => (Nat.shiftLeft a b) % 4294967296
  | false => fShlG a b
theorem fShl_ok (a b : Nat) : Int32.ofNat (fShl a b) = Int32.ofNat a <<< (Int32.ofNat b &&& 31) := by
  unfold fShl
  split
  · rename_i h
    simp only [Nat.blt_eq] at h
    rw [f_mod, ← Int32.toBitVec_inj]
    show BitVec.ofNat 32 (a <<< b) = (BitVec.ofNat 32 a) <<< ((Int32.ofNat b &&& 31).toBitVec.smod 32).toNat
    rw [f_sh b h]
    apply BitVec.eq_of_toNat_eq
    simp only [BitVec.toNat_ofNat, BitVec.toNat_shiftLeft]
    rw [Nat.shiftLeft_eq, Nat.shiftLeft_eq, Nat.mod_mul_mod]
  · exact fN_ok _
