/-! 17: results compared; runs with one end -/
noncomputable def eqV (v w : sV) : Bool := match v with
  | .inl x => match w with
    | .inl y => eqX x y
    | _ => false
  | .inr (.inl x) => match w with
    | .inr (.inl y) => eqX x y
    | _ => false
  | .inr (.inr none) => match w with
    | .inr (.inr none) => true
    | _ => false
  | .inr (.inr (some i)) => match w with
    | .inr (.inr (some j)) => Nat.beq i j
    | _ => false
theorem eqV_ok {v w : sV} (h : eqV v w = true) : v = w := by
  rcases v with x | x | x | x <;> rcases w with y | y | y | y
  all_goals first
    | exact nomatch (show false = true from h)
    | exact congrArg Sum.inl (eqX_ok _ _ h)
    | exact congrArg (fun z => Sum.inr (Sum.inl z)) (eqX_ok _ _ h)
    | rfl
    | exact congrArg (fun z => Sum.inr (Sum.inr (some z))) (Nat.eq_of_beq_eq_true h)
noncomputable def eqL {α : Type} (f : α → α → Bool) (a : List α) : List α → Bool := List.rec (motive := fun _ => List α → Bool) (fun b => List.rec (motive := fun _ => Bool) true (fun _ _ _ => false) b) (fun x _ ih b => List.rec (motive := fun _ => Bool) false (fun y b _ => Bool.and (f x y) (ih b)) b) a
theorem eqL_ok {α : Type} {f : α → α → Bool} (hf : ∀ x y, f x y = true → x = y) : ∀ a b : List α, eqL f a b = true → a = b
  | [], [], _ => rfl
  | [], _ :: _, h => nomatch (show false = true from h)
  | _ :: _, [], h => nomatch (show false = true from h)
  | x :: a, y :: b, h => by
    have h2 : Bool.and (f x y) (eqL f a b) = true := h
    rw [Bool.and_eq_true] at h2
    rw [hf x y h2.1, eqL_ok hf a b h2.2]
noncomputable def eqC (a b : sC) : Bool := Bool.and (Nat.beq a.1 b.1) (Bool.and (Nat.beq a.2.1 b.2.1) (eqL eqV a.2.2 b.2.2))
theorem eqC_ok (a b : sC) (h : eqC a b = true) : a = b := by
  obtain ⟨a1, a2, a3⟩ := a
  obtain ⟨b1, b2, b3⟩ := b
  simp only [eqC, Bool.and_eq_true] at h
  have h1 : a1 = b1 := Nat.eq_of_beq_eq_true h.1
  have h2 : a2 = b2 := Nat.eq_of_beq_eq_true h.2.1
  have h3 : a3 = b3 := eqL_ok (fun _ _ => eqV_ok) _ _ h.2.2
  rw [h1, h2, h3]
noncomputable def eqO (v w : Option sV) : Bool := Option.rec (motive := fun _ => Bool) (Option.rec (motive := fun _ => Bool) true (fun _ => false) w) (fun v => Option.rec (motive := fun _ => Bool) false (fun w => eqV v w) w) v
theorem eqO_ok {v w : Option sV} (h : eqO v w = true) : v = w := by
  cases v <;> cases w
  · rfl
  · exact nomatch (show false = true from h)
  · exact nomatch (show false = true from h)
  · exact congrArg some (eqV_ok h)
/-- the end of a run: this answer, this memory -/
noncomputable def sEnd (v0 : Option sV) (mem0 : sM) : sKr := fun v _ mem => Bool.and (eqO v v0) (eqL eqC mem mem0)
/-- a run of method k from mem with the arguments as (path pa) that ends so -/
noncomputable def sRun (fuel d k : Nat) (pa : List sK) (mem : sM) (as : List sV) (kr : sKr) : Bool := sEnt as (PG k).2.1 (fun L => sx PG fuel d (PG k) (fun _ => false) (fun _ _ _ _ _ => false) kr (nat_lit 0) L [] pa mem)
section SR
variable {D : va_G} {cy : Nat → ClassId} {r : sE} {al : Nat → Nat} {hid : Nat → va_E} {rest : va_W}
theorem sRun_met (l : Launch) {fuel d k : Nat} {pa : List sK} {mem : sM} {as : List sV} {kr : sKr} (hp : sPa r pa) (h : sRun fuel d k pa mem as kr = true) : sMet MI l D cy hid rest r al d k mem as kr := sMet_of sGood_ok (sx_w sGood_ok sFld_ok sCpw_ok fuel) hp h
end SR
