/-! 98q: fraction: what both sides work out, in whole numbers (by wip/whole/mk98q.py) -/
def DSt : List (List (List Nat)) := [[[(nat_lit 9)], [(nat_lit 9)], [(nat_lit 9)], [(nat_lit 9)]], [[(nat_lit 9)], [(nat_lit 9)], [(nat_lit 9)], [(nat_lit 9)]], [[(nat_lit 7)], [(nat_lit 9)], [(nat_lit 9)], [(nat_lit 9)]], [[(nat_lit 9)], [(nat_lit 9)], [(nat_lit 9)], [(nat_lit 9)]], [[(nat_lit 9), (nat_lit 7)], [(nat_lit 6), (nat_lit 10)], [(nat_lit 9), (nat_lit 9)], [(nat_lit 9), (nat_lit 9)]], [[(nat_lit 7)], [(nat_lit 7)], [(nat_lit 9)], [(nat_lit 9)]], [[(nat_lit 9)], [(nat_lit 9)], [(nat_lit 9)], [(nat_lit 9)]], [[(nat_lit 9), (nat_lit 9), (nat_lit 7)], [(nat_lit 9), (nat_lit 6), (nat_lit 10)], [(nat_lit 5), (nat_lit 11), (nat_lit 9)], [(nat_lit 9), (nat_lit 9), (nat_lit 9)]], [[(nat_lit 9), (nat_lit 7)], [(nat_lit 6), (nat_lit 10)], [(nat_lit 9), (nat_lit 7)], [(nat_lit 9), (nat_lit 9)]], [[(nat_lit 9), (nat_lit 7), (nat_lit 7)], [(nat_lit 6), (nat_lit 10), (nat_lit 7)], [(nat_lit 7), (nat_lit 5), (nat_lit 11)], [(nat_lit 9), (nat_lit 9), (nat_lit 9)]], [[(nat_lit 7)], [(nat_lit 7)], [(nat_lit 7)], [(nat_lit 9)]], [[(nat_lit 9)], [(nat_lit 9)], [(nat_lit 9)], [(nat_lit 9)]], [[(nat_lit 9), (nat_lit 9), (nat_lit 9), (nat_lit 7)], [(nat_lit 9), (nat_lit 9), (nat_lit 6), (nat_lit 10)], [(nat_lit 9), (nat_lit 5), (nat_lit 11), (nat_lit 9)], [(nat_lit 4), (nat_lit 12), (nat_lit 9), (nat_lit 9)]], [[(nat_lit 9), (nat_lit 9), (nat_lit 9), (nat_lit 7), (nat_lit 7)], [(nat_lit 9), (nat_lit 6), (nat_lit 6), (nat_lit 10), (nat_lit 10)], [(nat_lit 5), (nat_lit 11), (nat_lit 9), (nat_lit 9), (nat_lit 7)], [(nat_lit 9), (nat_lit 6), (nat_lit 10), (nat_lit 6), (nat_lit 10)]], [[(nat_lit 9), (nat_lit 9), (nat_lit 9), (nat_lit 7), (nat_lit 7), (nat_lit 7)], [(nat_lit 9), (nat_lit 6), (nat_lit 6), (nat_lit 10), (nat_lit 10), (nat_lit 7)], [(nat_lit 5), (nat_lit 11), (nat_lit 7), (nat_lit 9), (nat_lit 5), (nat_lit 11)], [(nat_lit 7), (nat_lit 4), (nat_lit 12), (nat_lit 4), (nat_lit 12), (nat_lit 9)]], [[(nat_lit 9), (nat_lit 9), (nat_lit 7), (nat_lit 7), (nat_lit 7)], [(nat_lit 6), (nat_lit 6), (nat_lit 10), (nat_lit 10), (nat_lit 7)], [(nat_lit 9), (nat_lit 7), (nat_lit 7), (nat_lit 5), (nat_lit 11)], [(nat_lit 6), (nat_lit 10), (nat_lit 6), (nat_lit 10), (nat_lit 7)]], [[(nat_lit 9), (nat_lit 7), (nat_lit 7), (nat_lit 7)], [(nat_lit 6), (nat_lit 10), (nat_lit 7), (nat_lit 7)], [(nat_lit 7), (nat_lit 5), (nat_lit 11), (nat_lit 7)], [(nat_lit 7), (nat_lit 7), (nat_lit 4), (nat_lit 12)]], [[(nat_lit 7)], [(nat_lit 7)], [(nat_lit 7)], [(nat_lit 7)]]]
def CHt : List (List (List Nat)) := [[[(nat_lit 9)], [(nat_lit 9)], [(nat_lit 9)], [(nat_lit 9)]], [[(nat_lit 9)], [(nat_lit 9)], [(nat_lit 9)], [(nat_lit 9)]], [[(nat_lit 9)], [(nat_lit 9)], [(nat_lit 9)], [(nat_lit 9)]], [[(nat_lit 9)], [(nat_lit 9)], [(nat_lit 9)], [(nat_lit 9)]], [[(nat_lit 9), (nat_lit 9)], [(nat_lit 1), (nat_lit 0)], [(nat_lit 9), (nat_lit 9)], [(nat_lit 9), (nat_lit 9)]], [[(nat_lit 9)], [(nat_lit 9)], [(nat_lit 9)], [(nat_lit 9)]], [[(nat_lit 9)], [(nat_lit 9)], [(nat_lit 9)], [(nat_lit 9)]], [[(nat_lit 9), (nat_lit 9), (nat_lit 9)], [(nat_lit 9), (nat_lit 2), (nat_lit 1)], [(nat_lit 1), (nat_lit 0), (nat_lit 9)], [(nat_lit 9), (nat_lit 9), (nat_lit 9)]], [[(nat_lit 9), (nat_lit 9)], [(nat_lit 1), (nat_lit 0)], [(nat_lit 9), (nat_lit 9)], [(nat_lit 9), (nat_lit 9)]], [[(nat_lit 9), (nat_lit 9), (nat_lit 9)], [(nat_lit 1), (nat_lit 0), (nat_lit 9)], [(nat_lit 9), (nat_lit 2), (nat_lit 1)], [(nat_lit 9), (nat_lit 9), (nat_lit 9)]], [[(nat_lit 9)], [(nat_lit 9)], [(nat_lit 9)], [(nat_lit 9)]], [[(nat_lit 9)], [(nat_lit 9)], [(nat_lit 9)], [(nat_lit 9)]], [[(nat_lit 9), (nat_lit 9), (nat_lit 9), (nat_lit 9)], [(nat_lit 9), (nat_lit 9), (nat_lit 3), (nat_lit 2)], [(nat_lit 9), (nat_lit 2), (nat_lit 1), (nat_lit 9)], [(nat_lit 1), (nat_lit 0), (nat_lit 9), (nat_lit 9)]], [[(nat_lit 9), (nat_lit 9), (nat_lit 9), (nat_lit 9), (nat_lit 9)], [(nat_lit 9), (nat_lit 3), (nat_lit 4), (nat_lit 1), (nat_lit 2)], [(nat_lit 1), (nat_lit 0), (nat_lit 9), (nat_lit 9), (nat_lit 9)], [(nat_lit 9), (nat_lit 2), (nat_lit 1), (nat_lit 4), (nat_lit 3)]], [[(nat_lit 9), (nat_lit 9), (nat_lit 9), (nat_lit 9), (nat_lit 9), (nat_lit 9)], [(nat_lit 9), (nat_lit 3), (nat_lit 4), (nat_lit 1), (nat_lit 2), (nat_lit 9)], [(nat_lit 1), (nat_lit 0), (nat_lit 9), (nat_lit 9), (nat_lit 5), (nat_lit 4)], [(nat_lit 9), (nat_lit 2), (nat_lit 1), (nat_lit 4), (nat_lit 3), (nat_lit 9)]], [[(nat_lit 9), (nat_lit 9), (nat_lit 9), (nat_lit 9), (nat_lit 9)], [(nat_lit 2), (nat_lit 3), (nat_lit 0), (nat_lit 1), (nat_lit 9)], [(nat_lit 9), (nat_lit 9), (nat_lit 9), (nat_lit 4), (nat_lit 3)], [(nat_lit 1), (nat_lit 0), (nat_lit 3), (nat_lit 2), (nat_lit 9)]], [[(nat_lit 9), (nat_lit 9), (nat_lit 9), (nat_lit 9)], [(nat_lit 1), (nat_lit 0), (nat_lit 9), (nat_lit 9)], [(nat_lit 9), (nat_lit 2), (nat_lit 1), (nat_lit 9)], [(nat_lit 9), (nat_lit 9), (nat_lit 3), (nat_lit 2)]], [[(nat_lit 9)], [(nat_lit 9)], [(nat_lit 9)], [(nat_lit 9)]]]
noncomputable def gt3 (t : List (List (List Nat))) (c s m : Nat) : Nat := Option.rec (motive := fun _ => Nat) (nat_lit 9) (fun a => Option.rec (motive := fun _ => Nat) (nat_lit 9) (fun b => Option.rec (motive := fun _ => Nat) (nat_lit 9) (fun x => x) (rGet b m)) (rGet a (Nat.pred s))) (rGet t c)
/-- by how much the content grows, and 8 -/
noncomputable def dsN (c s m : Nat) : Nat := gt3 DSt c s m
/-- what a swap changes a standard one to; 9: none -/
noncomputable def chN9 (c s m : Nat) : Nat := gt3 CHt c s m
noncomputable def dsT (c s m : Nat) : Int := Int.subNatNat (dsN c s m) (nat_lit 8)
noncomputable def zFc (z : Int) (k : Int → Bool) : Bool := Int.rec (motive := fun _ => Bool) (fun n => sFc n (fun n => k (Int.ofNat n))) (fun n => sFc n (fun n => k (Int.negSucc n))) z
theorem zFc_eq (z : Int) (k : Int → Bool) : zFc z k = k z := by
  cases z with
  | ofNat n => exact sFc_eq n (fun n => k (Int.ofNat n))
  | negSucc n => exact sFc_eq n (fun n => k (Int.negSucc n))
noncomputable def zB (x y : Int) : Bool := Int.rec (motive := fun _ => Bool) (fun a => Int.rec (motive := fun _ => Bool) (fun b => Nat.beq a b) (fun _ => false) y) (fun a => Int.rec (motive := fun _ => Bool) (fun _ => false) (fun b => Nat.beq a b) y) x
theorem zB_ok {x y : Int} (h : zB x y = true) : x = y := by
  cases x <;> cases y <;> first | exact nomatch (show false = true from h) | exact congrArg _ (Nat.eq_of_beq_eq_true h)
theorem zB_no {x y : Int} (h : zB x y = false) : x ≠ y := by
  intro e
  subst e
  cases x <;> (have h2 := h; exact nomatch (Nat.beq_refl _).symm.trans h2)
/-- the sum is in range -/
def rg (a b c d : Int) : Prop := (frU a b c d).natAbs < 9223372036854775808 ∧ (b * d).natAbs < 9223372036854775808 ∧ b * d ≠ 0
noncomputable def adK (a b c d : Int) (k : Int → Int → Bool) : Bool := zFc (frU a b c d) (fun u => zFc (b * d) (fun e => Bool.and (Bool.and (Nat.ble (Nat.succ u.natAbs) (nat_lit 9223372036854775808)) (Bool.and (Nat.ble (Nat.succ e.natAbs) (nat_lit 9223372036854775808)) (Nat.ble (nat_lit 1) e.natAbs))) (sFc (Nat.gcd u.natAbs e.natAbs) (fun g => zFc (u.tdiv g * e.sign) (fun x => zFc (e.tdiv g * e.sign) (fun y => k x y))))))
theorem adK_ok {a b c d : Int} {k : Int → Int → Bool} (h : adK a b c d k = true) : rg a b c d ∧ k (frA a b c d) (frB a b c d) = true := by
  unfold adK at h
  rw [zFc_eq, zFc_eq, Bool.and_eq_true, Bool.and_eq_true, Bool.and_eq_true, sFc_eq, zFc_eq, zFc_eq] at h
  obtain ⟨⟨h1, h2, h3⟩, h4⟩ := h
  have h1 : (frU a b c d).natAbs + 1 ≤ 9223372036854775808 := Nat.le_of_ble_eq_true h1
  have h2 : (b * d).natAbs + 1 ≤ 9223372036854775808 := Nat.le_of_ble_eq_true h2
  have h3 : 1 ≤ (b * d).natAbs := Nat.le_of_ble_eq_true h3
  exact ⟨⟨by omega, by omega, by omega⟩, h4⟩
abbrev zR : Type := List (Int × Int)
noncomputable def getZ (v : zR) : Nat → Int × Int := List.rec (motive := fun _ => Nat → Int × Int) (fun _ => ((0 : Int), (1 : Int))) (fun z _ ih n => Nat.rec (motive := fun _ => Int × Int) z (fun m _ => ih m) n) v
-- the model
noncomputable def swP (c s m j : Nat) : Int × Int := Bool.rec (motive := fun _ => Int × Int) (Bool.rec (motive := fun _ => Int × Int) ((0 : Int), (1 : Int)) (Bool.rec (motive := fun _ => Int × Int) (dsT c s m * dsT c s m - 1, dsT c s m * dsT c s m) ((1 : Int), (1 : Int)) (Nat.ble (Nat.succ m) j)) (Nat.beq (chN9 c s m) j)) ((dsT c s m).sign, ((dsT c s m).natAbs : Int)) (Nat.beq m j)
noncomputable def suL (c s j : Nat) (v : zR) : Nat → Int → Int → Int × Int := List.rec (motive := fun _ => Nat → Int → Int → Int × Int) (fun _ a b => (a, b)) (fun z _ ih m a b => Bool.rec (motive := fun _ => Int × Int) (ih (Nat.succ m) (frA a b ((swP c s m j).1 * z.1) ((swP c s m j).2 * z.2)) (frB a b ((swP c s m j).1 * z.1) ((swP c s m j).2 * z.2))) (ih (Nat.succ m) a b) (zB z.1 0)) v
noncomputable def suG (c s j : Nat) (v : zR) : Nat → Int → Int → Prop := List.rec (motive := fun _ => Nat → Int → Int → Prop) (fun _ _ _ => True) (fun z _ ih m a b => Bool.rec (motive := fun _ => Prop) (z.1.natAbs < 9223372036854775808 ∧ rg a b ((swP c s m j).1 * z.1) ((swP c s m j).2 * z.2) ∧ ih (Nat.succ m) (frA a b ((swP c s m j).1 * z.1) ((swP c s m j).2 * z.2)) (frB a b ((swP c s m j).1 * z.1) ((swP c s m j).2 * z.2))) (ih (Nat.succ m) a b) (zB z.1 0)) v
noncomputable def suK (c s j : Nat) (v : zR) : Nat → Int → Int → (Int → Int → Bool) → Bool := List.rec (motive := fun _ => Nat → Int → Int → (Int → Int → Bool) → Bool) (fun _ a b k => k a b) (fun z _ ih m a b k => Bool.rec (motive := fun _ => Bool) (Bool.and (Nat.ble (Nat.succ z.1.natAbs) (nat_lit 9223372036854775808)) (zFc ((swP c s m j).1 * z.1) (fun x => zFc ((swP c s m j).2 * z.2) (fun y => adK a b x y (fun a b => ih (Nat.succ m) a b k))))) (ih (Nat.succ m) a b k) (zB z.1 0)) v
theorem suK_ok {c s j : Nat} {k : Int → Int → Bool} : ∀ (v : zR) (m : Nat) (a b : Int), suK c s j v m a b k = true → suG c s j v m a b ∧ k (suL c s j v m a b).1 (suL c s j v m a b).2 = true := by
  intro v
  induction v with
  | nil => intro m a b h; exact ⟨trivial, h⟩
  | cons z v ih =>
    intro m a b h
    have h1 : Bool.rec (motive := fun _ => Bool) (Bool.and (Nat.ble (Nat.succ z.1.natAbs) (nat_lit 9223372036854775808)) (zFc ((swP c s m j).1 * z.1) (fun x => zFc ((swP c s m j).2 * z.2) (fun y => adK a b x y (fun a b => suK c s j v (Nat.succ m) a b k))))) (suK c s j v (Nat.succ m) a b k) (zB z.1 0) = true := h
    show Bool.rec (motive := fun _ => Prop) (z.1.natAbs < 9223372036854775808 ∧ rg a b ((swP c s m j).1 * z.1) ((swP c s m j).2 * z.2) ∧ suG c s j v (Nat.succ m) (frA a b ((swP c s m j).1 * z.1) ((swP c s m j).2 * z.2)) (frB a b ((swP c s m j).1 * z.1) ((swP c s m j).2 * z.2))) (suG c s j v (Nat.succ m) a b) (zB z.1 0) ∧ k (Bool.rec (motive := fun _ => Int × Int) (suL c s j v (Nat.succ m) (frA a b ((swP c s m j).1 * z.1) ((swP c s m j).2 * z.2)) (frB a b ((swP c s m j).1 * z.1) ((swP c s m j).2 * z.2))) (suL c s j v (Nat.succ m) a b) (zB z.1 0) : Int × Int).1 (Bool.rec (motive := fun _ => Int × Int) (suL c s j v (Nat.succ m) (frA a b ((swP c s m j).1 * z.1) ((swP c s m j).2 * z.2)) (frB a b ((swP c s m j).1 * z.1) ((swP c s m j).2 * z.2))) (suL c s j v (Nat.succ m) a b) (zB z.1 0) : Int × Int).2 = true
    cases hz : zB z.1 0 with
    | true =>
      rw [hz] at h1
      exact ih _ _ _ h1
    | false =>
      rw [hz] at h1
      replace h1 : Bool.and (Nat.ble (Nat.succ z.1.natAbs) (nat_lit 9223372036854775808)) (zFc ((swP c s m j).1 * z.1) (fun x => zFc ((swP c s m j).2 * z.2) (fun y => adK a b x y (fun a b => suK c s j v (Nat.succ m) a b k)))) = true := h1
      rw [Bool.and_eq_true, zFc_eq, zFc_eq] at h1
      obtain ⟨h0, h1⟩ := h1
      have h0 : z.1.natAbs + 1 ≤ 9223372036854775808 := Nat.le_of_ble_eq_true h0
      obtain ⟨g1, g2⟩ := adK_ok h1
      obtain ⟨g3, g4⟩ := ih _ _ _ g2
      exact ⟨⟨by omega, g1, g3⟩, g4⟩
-- the class
noncomputable def adR (v : zR) : Nat → Int → Int → zR := List.rec (motive := fun _ => Nat → Int → Int → zR) (fun _ _ _ => []) (fun q l ih i c d => Nat.rec (motive := fun _ => zR) ((frA q.1 q.2 c d, frB q.1 q.2 c d) :: l) (fun i _ => q :: ih i c d) i) v
noncomputable def adRK (v : zR) : Nat → Int → Int → (zR → Bool) → Bool := List.rec (motive := fun _ => Nat → Int → Int → (zR → Bool) → Bool) (fun _ _ _ _ => false) (fun q l ih i c d k => Nat.rec (motive := fun _ => Bool) (adK q.1 q.2 c d (fun a b => k ((a, b) :: l))) (fun i _ => ih i c d (fun l' => k (q :: l'))) i) v
theorem adRK_ok {c d : Int} : ∀ (v : zR) (i : Nat) (k : zR → Bool), adRK v i c d k = true → (rg (getZ v i).1 (getZ v i).2 c d ∧ i < v.length) ∧ k (adR v i c d) = true := by
  intro v
  induction v with
  | nil => intro i k h; exact nomatch (show false = true from h)
  | cons q l ih =>
    intro i k h
    cases i with
    | zero =>
      obtain ⟨g1, g2⟩ := adK_ok (show adK q.1 q.2 c d (fun a b => k ((a, b) :: l)) = true from h)
      exact ⟨⟨g1, by simp⟩, g2⟩
    | succ i =>
      obtain ⟨⟨g1, g2⟩, g3⟩ := ih i _ (show adRK l i c d (fun l' => k (q :: l')) = true from h)
      exact ⟨⟨g1, by simpa using g2⟩, g3⟩
theorem adR_len {c d : Int} : ∀ (v : zR) (i : Nat), (adR v i c d).length = v.length := by
  intro v
  induction v with
  | nil => intro i; rfl
  | cons q l ih =>
    intro i
    cases i with
    | zero => rfl
    | succ i =>
      show (q :: adR l i c d).length = _
      rw [List.length_cons, ih i]
      rfl
theorem adR_get {c d : Int} : ∀ (v : zR) (i j : Nat), i < v.length → getZ (adR v i c d) j = if j = i then (frA (getZ v i).1 (getZ v i).2 c d, frB (getZ v i).1 (getZ v i).2 c d) else getZ v j := by
  intro v
  induction v with
  | nil => intro i j h; exact absurd h (by simp)
  | cons q l ih =>
    intro i j h
    cases i with
    | zero =>
      cases j with
      | zero => rfl
      | succ j => rfl
    | succ i =>
      cases j with
      | zero => rfl
      | succ j =>
        show getZ (adR l i c d) j = _
        rw [ih i j (by simpa using h)]
        by_cases e : j = i
        · rw [if_pos e, if_pos (by omega)]
          rfl
        · rw [if_neg e, if_neg (by omega)]
          rfl
/-- the second sum of a turn -/
noncomputable def g2C (c s m : Nat) (z : Int × Int) : Int := Bool.rec (motive := fun _ => Int) (z.1 * (dsT c s m * dsT c s m - 1)) z.1 (Nat.ble (Nat.succ m) (chN9 c s m))
noncomputable def g2D (c s m : Nat) (z : Int × Int) : Int := Bool.rec (motive := fun _ => Int) (z.2 * dsT c s m * dsT c s m) z.2 (Nat.ble (Nat.succ m) (chN9 c s m))
noncomputable def go2 (c s m : Nat) (z : Int × Int) (row : zR) : zR := Bool.rec (motive := fun _ => zR) (adR row (chN9 c s m) (g2C c s m z) (g2D c s m z)) row (Nat.beq (chN9 c s m) (nat_lit 9))
noncomputable def go2G (c s m : Nat) (z : Int × Int) (row : zR) : Prop := Bool.rec (motive := fun _ => Prop) (rg (getZ row (chN9 c s m)).1 (getZ row (chN9 c s m)).2 (g2C c s m z) (g2D c s m z) ∧ chN9 c s m < row.length) True (Nat.beq (chN9 c s m) (nat_lit 9))
noncomputable def goL (c s : Nat) (v : zR) : Nat → zR → zR := List.rec (motive := fun _ => Nat → zR → zR) (fun _ row => row) (fun z _ ih m row => ih (Nat.succ m) (go2 c s m z (adR row m z.1 (z.2 * dsT c s m)))) v
noncomputable def goG (c s : Nat) (v : zR) : Nat → zR → Prop := List.rec (motive := fun _ => Nat → zR → Prop) (fun _ _ => True) (fun z _ ih m row => (rg (getZ row m).1 (getZ row m).2 z.1 (z.2 * dsT c s m) ∧ m < row.length) ∧ go2G c s m z (adR row m z.1 (z.2 * dsT c s m)) ∧ ih (Nat.succ m) (go2 c s m z (adR row m z.1 (z.2 * dsT c s m)))) v
noncomputable def goK (c s : Nat) (v : zR) : Nat → zR → (zR → Bool) → Bool := List.rec (motive := fun _ => Nat → zR → (zR → Bool) → Bool) (fun _ row k => k row) (fun z _ ih m row k => zFc (z.2 * dsT c s m) (fun y => adRK row m z.1 y (fun row => Bool.rec (motive := fun _ => Bool) (zFc (g2C c s m z) (fun x => zFc (g2D c s m z) (fun y => adRK row (chN9 c s m) x y (fun row => ih (Nat.succ m) row k)))) (ih (Nat.succ m) row k) (Nat.beq (chN9 c s m) (nat_lit 9))))) v
theorem goK_ok {c s : Nat} {k : zR → Bool} : ∀ (v : zR) (m : Nat) (row : zR), goK c s v m row k = true → goG c s v m row ∧ k (goL c s v m row) = true := by
  intro v
  induction v with
  | nil => intro m row h; exact ⟨trivial, h⟩
  | cons z v ih =>
    intro m row h
    have h1 : zFc (z.2 * dsT c s m) (fun y => adRK row m z.1 y (fun row => Bool.rec (motive := fun _ => Bool) (zFc (g2C c s m z) (fun x => zFc (g2D c s m z) (fun y => adRK row (chN9 c s m) x y (fun row => goK c s v (Nat.succ m) row k)))) (goK c s v (Nat.succ m) row k) (Nat.beq (chN9 c s m) (nat_lit 9)))) = true := h
    rw [zFc_eq] at h1
    obtain ⟨g1, g2⟩ := adRK_ok _ _ _ h1
    show ((rg (getZ row m).1 (getZ row m).2 z.1 (z.2 * dsT c s m) ∧ m < row.length) ∧ go2G c s m z (adR row m z.1 (z.2 * dsT c s m)) ∧ goG c s v (Nat.succ m) (go2 c s m z (adR row m z.1 (z.2 * dsT c s m)))) ∧ k (goL c s v (Nat.succ m) (go2 c s m z (adR row m z.1 (z.2 * dsT c s m)))) = true
    generalize adR row m z.1 (z.2 * dsT c s m) = row1 at g2 ⊢
    unfold go2G go2
    cases hz : Nat.beq (chN9 c s m) (nat_lit 9) with
    | true =>
      rw [hz] at g2
      obtain ⟨g3, g4⟩ := ih _ _ g2
      exact ⟨⟨g1, trivial, g3⟩, g4⟩
    | false =>
      rw [hz] at g2
      replace g2 : zFc (g2C c s m z) (fun x => zFc (g2D c s m z) (fun y => adRK row1 (chN9 c s m) x y (fun row => goK c s v (Nat.succ m) row k))) = true := g2
      rw [zFc_eq, zFc_eq] at g2
      obtain ⟨g3, g4⟩ := adRK_ok _ _ _ g2
      obtain ⟨g5, g6⟩ := ih _ _ g4
      exact ⟨⟨g1, g3, g5⟩, g6⟩
theorem goL_len {c s : Nat} : ∀ (v : zR) (m : Nat) (row : zR), (goL c s v m row).length = row.length := by
  intro v
  induction v with
  | nil => intro m row; rfl
  | cons z v ih =>
    intro m row
    show (goL c s v (Nat.succ m) (go2 c s m z (adR row m z.1 (z.2 * dsT c s m)))).length = _
    rw [ih]
    unfold go2
    cases Nat.beq (chN9 c s m) (nat_lit 9) with
    | true => exact adR_len _ _
    | false => exact (adR_len _ _).trans (adR_len _ _)
noncomputable def zero (d : Nat) : zR := Nat.rec (motive := fun _ => zR) [] (fun _ ih => ((0 : Int), (1 : Int)) :: ih) d
theorem zero_len : ∀ d : Nat, (zero d).length = d
  | 0 => rfl
  | d + 1 => by show (((0 : Int), (1 : Int)) :: zero d).length = _; rw [List.length_cons, zero_len d]
theorem zero_get : ∀ (d j : Nat), getZ (zero d) j = (0, 1)
  | 0, j => rfl
  | d + 1, 0 => rfl
  | d + 1, j + 1 => zero_get d j
noncomputable def unit (k d : Nat) : zR := adR (zero d) k (1 : Int) (1 : Int)
noncomputable def stpK (c s : Nat) (v : zR) (k : zR → Bool) : Bool := goK c s v (nat_lit 0) (zero (dOf c)) (fun row => Bool.and (allL (dOf c) (fun j => suK c s j v (nat_lit 0) (0 : Int) (1 : Int) (fun a b => Bool.and (zB (getZ row j).1 a) (zB (getZ row j).2 b)))) (k row))
/-- a step goes well -/
def okS (c s : Nat) (v : zR) : Prop := goG c s v 0 (zero (dOf c)) ∧ ∀ j, j < dOf c → suG c s j v 0 0 1 ∧ getZ (goL c s v 0 (zero (dOf c))) j = suL c s j v 0 0 1
theorem stpK_ok {c s : Nat} {v : zR} {k : zR → Bool} (h : stpK c s v k = true) : okS c s v ∧ k (goL c s v 0 (zero (dOf c))) = true := by
  obtain ⟨h1, h2⟩ := goK_ok _ _ _ h
  rw [Bool.and_eq_true] at h2
  refine ⟨⟨h1, fun j hj => ?_⟩, h2.2⟩
  obtain ⟨g1, g2⟩ := suK_ok _ _ _ _ (allL_ok h2.1 j hj)
  rw [Bool.and_eq_true] at g2
  exact ⟨g1, Prod.ext (zB_ok g2.1) (zB_ok g2.2)⟩
/-- the row of k after a word -/
noncomputable def Tw (c k : Nat) (w : List Nat) : zR := List.rec (motive := fun _ => zR) (unit k (dOf c)) (fun s _ ih => goL c s ih (nat_lit 0) (zero (dOf c))) w
noncomputable def ckWd (c k : Nat) (w : List Nat) : (zR → Bool) → Bool := List.rec (motive := fun _ => (zR → Bool) → Bool) (fun kont => adRK (zero (dOf c)) k (1 : Int) (1 : Int) kont) (fun s _ ih kont => ih (fun v => stpK c s v kont)) w
noncomputable def goodW (c k : Nat) (w : List Nat) : Prop := List.rec (motive := fun _ => Prop) (rg 0 1 1 1 ∧ k < dOf c) (fun s w ih => ih ∧ okS c s (Tw c k w)) w
theorem ckWd_ok {c k : Nat} : ∀ (w : List Nat) (kont : zR → Bool), ckWd c k w kont = true → goodW c k w ∧ kont (Tw c k w) = true := by
  intro w
  induction w with
  | nil =>
    intro kont h
    obtain ⟨⟨g1, g2⟩, g3⟩ := adRK_ok _ _ _ (show adRK (zero (dOf c)) k (1 : Int) (1 : Int) kont = true from h)
    rw [zero_get] at g1
    rw [zero_len] at g2
    exact ⟨⟨g1, g2⟩, g3⟩
  | cons s w ih =>
    intro kont h
    obtain ⟨g1, g2⟩ := ih _ (show ckWd c k w (fun v => stpK c s v kont) = true from h)
    obtain ⟨g3, g4⟩ := stpK_ok g2
    exact ⟨⟨g1, g3⟩, g4⟩
theorem Tw_len {c k : Nat} (w : List Nat) : (Tw c k w).length = dOf c := by
  cases w with
  | nil => exact (adR_len _ _).trans (zero_len _)
  | cons s w => exact (goL_len _ _ _).trans (zero_len _)
noncomputable def ckA (c : Nat) (l : List (List Nat)) : Bool := lAll (fun o => allL (dOf c) (fun k => ckWd c k (wdO o) (fun _ => true))) l
theorem q_frA : allL 11 (fun c => ckA c (ordN (nOf c))) = true := by decide +kernel
theorem q_fr11 : ckA 11 (ordN 5) = true := by decide +kernel
theorem q_fr12 : ckA 12 (ordN 5) = true := by decide +kernel
theorem q_fr13 : ckA 13 (ordN 5) = true := by decide +kernel
theorem q_fr14 : ckA 14 (ordN 5) = true := by decide +kernel
theorem q_fr15 : ckA 15 (ordN 5) = true := by decide +kernel
theorem q_fr16 : ckA 16 (ordN 5) = true := by decide +kernel
theorem q_fr17 : ckA 17 (ordN 5) = true := by decide +kernel
theorem q_fr {c k : Nat} {o : List Nat} (hc : c < 18) (ho : o ∈ ordN (nOf c)) (hk : k < dOf c) : goodW c k (wdO o) := by
  have key : ckA c (ordN (nOf c)) = true := by
    by_cases h : c < 11
    · exact allL_ok q_frA c h
    · rcases (show c = 11 ∨ c = 12 ∨ c = 13 ∨ c = 14 ∨ c = 15 ∨ c = 16 ∨ c = 17 by omega) with rfl | rfl | rfl | rfl | rfl | rfl | rfl
      · exact q_fr11
      · exact q_fr12
      · exact q_fr13
      · exact q_fr14
      · exact q_fr15
      · exact q_fr16
      · exact q_fr17
  exact (ckWd_ok _ _ (allL_ok (lAll_ok key o ho) k hk)).1
