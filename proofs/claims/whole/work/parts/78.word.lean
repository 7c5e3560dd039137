/-! 78: words of orders (by wip/whole/mk78.py) -/
def WDS : List (List Nat) := [[], [nat_lit 1], [nat_lit 2], [nat_lit 1, nat_lit 2], [nat_lit 2, nat_lit 1], [nat_lit 1, nat_lit 2, nat_lit 1], [nat_lit 3], [nat_lit 2, nat_lit 3], [nat_lit 3, nat_lit 2], [nat_lit 2, nat_lit 3, nat_lit 2], [nat_lit 1, nat_lit 3], [nat_lit 1, nat_lit 2, nat_lit 3], [nat_lit 1, nat_lit 3, nat_lit 2], [nat_lit 1, nat_lit 2, nat_lit 3, nat_lit 2], [nat_lit 2, nat_lit 1, nat_lit 3], [nat_lit 1, nat_lit 2, nat_lit 1, nat_lit 3], [nat_lit 2, nat_lit 1, nat_lit 3, nat_lit 2], [nat_lit 1, nat_lit 2, nat_lit 1, nat_lit 3, nat_lit 2], [nat_lit 3, nat_lit 2, nat_lit 1], [nat_lit 2, nat_lit 3, nat_lit 2, nat_lit 1], [nat_lit 1, nat_lit 3, nat_lit 2, nat_lit 1], [nat_lit 1, nat_lit 2, nat_lit 3, nat_lit 2, nat_lit 1], [nat_lit 2, nat_lit 1, nat_lit 3, nat_lit 2, nat_lit 1], [nat_lit 1, nat_lit 2, nat_lit 1, nat_lit 3, nat_lit 2, nat_lit 1], [nat_lit 4], [nat_lit 3, nat_lit 4], [nat_lit 4, nat_lit 3], [nat_lit 3, nat_lit 4, nat_lit 3], [nat_lit 2, nat_lit 4], [nat_lit 2, nat_lit 3, nat_lit 4], [nat_lit 2, nat_lit 4, nat_lit 3], [nat_lit 2, nat_lit 3, nat_lit 4, nat_lit 3], [nat_lit 3, nat_lit 2, nat_lit 4], [nat_lit 2, nat_lit 3, nat_lit 2, nat_lit 4], [nat_lit 3, nat_lit 2, nat_lit 4, nat_lit 3], [nat_lit 2, nat_lit 3, nat_lit 2, nat_lit 4, nat_lit 3], [nat_lit 4, nat_lit 3, nat_lit 2], [nat_lit 3, nat_lit 4, nat_lit 3, nat_lit 2], [nat_lit 2, nat_lit 4, nat_lit 3, nat_lit 2], [nat_lit 2, nat_lit 3, nat_lit 4, nat_lit 3, nat_lit 2], [nat_lit 3, nat_lit 2, nat_lit 4, nat_lit 3, nat_lit 2], [nat_lit 2, nat_lit 3, nat_lit 2, nat_lit 4, nat_lit 3, nat_lit 2], [nat_lit 1, nat_lit 4], [nat_lit 1, nat_lit 3, nat_lit 4], [nat_lit 1, nat_lit 4, nat_lit 3], [nat_lit 1, nat_lit 3, nat_lit 4, nat_lit 3], [nat_lit 1, nat_lit 2, nat_lit 4], [nat_lit 1, nat_lit 2, nat_lit 3, nat_lit 4], [nat_lit 1, nat_lit 2, nat_lit 4, nat_lit 3], [nat_lit 1, nat_lit 2, nat_lit 3, nat_lit 4, nat_lit 3], [nat_lit 1, nat_lit 3, nat_lit 2, nat_lit 4], [nat_lit 1, nat_lit 2, nat_lit 3, nat_lit 2, nat_lit 4], [nat_lit 1, nat_lit 3, nat_lit 2, nat_lit 4, nat_lit 3], [nat_lit 1, nat_lit 2, nat_lit 3, nat_lit 2, nat_lit 4, nat_lit 3], [nat_lit 1, nat_lit 4, nat_lit 3, nat_lit 2], [nat_lit 1, nat_lit 3, nat_lit 4, nat_lit 3, nat_lit 2], [nat_lit 1, nat_lit 2, nat_lit 4, nat_lit 3, nat_lit 2], [nat_lit 1, nat_lit 2, nat_lit 3, nat_lit 4, nat_lit 3, nat_lit 2], [nat_lit 1, nat_lit 3, nat_lit 2, nat_lit 4, nat_lit 3, nat_lit 2], [nat_lit 1, nat_lit 2, nat_lit 3, nat_lit 2, nat_lit 4, nat_lit 3, nat_lit 2], [nat_lit 2, nat_lit 1, nat_lit 4], [nat_lit 2, nat_lit 1, nat_lit 3, nat_lit 4], [nat_lit 2, nat_lit 1, nat_lit 4, nat_lit 3], [nat_lit 2, nat_lit 1, nat_lit 3, nat_lit 4, nat_lit 3], [nat_lit 1, nat_lit 2, nat_lit 1, nat_lit 4], [nat_lit 1, nat_lit 2, nat_lit 1, nat_lit 3, nat_lit 4], [nat_lit 1, nat_lit 2, nat_lit 1, nat_lit 4, nat_lit 3], [nat_lit 1, nat_lit 2, nat_lit 1, nat_lit 3, nat_lit 4, nat_lit 3], [nat_lit 2, nat_lit 1, nat_lit 3, nat_lit 2, nat_lit 4], [nat_lit 1, nat_lit 2, nat_lit 1, nat_lit 3, nat_lit 2, nat_lit 4], [nat_lit 2, nat_lit 1, nat_lit 3, nat_lit 2, nat_lit 4, nat_lit 3], [nat_lit 1, nat_lit 2, nat_lit 1, nat_lit 3, nat_lit 2, nat_lit 4, nat_lit 3], [nat_lit 2, nat_lit 1, nat_lit 4, nat_lit 3, nat_lit 2], [nat_lit 2, nat_lit 1, nat_lit 3, nat_lit 4, nat_lit 3, nat_lit 2], [nat_lit 1, nat_lit 2, nat_lit 1, nat_lit 4, nat_lit 3, nat_lit 2], [nat_lit 1, nat_lit 2, nat_lit 1, nat_lit 3, nat_lit 4, nat_lit 3, nat_lit 2], [nat_lit 2, nat_lit 1, nat_lit 3, nat_lit 2, nat_lit 4, nat_lit 3, nat_lit 2], [nat_lit 1, nat_lit 2, nat_lit 1, nat_lit 3, nat_lit 2, nat_lit 4, nat_lit 3, nat_lit 2], [nat_lit 3, nat_lit 2, nat_lit 1, nat_lit 4], [nat_lit 2, nat_lit 3, nat_lit 2, nat_lit 1, nat_lit 4], [nat_lit 3, nat_lit 2, nat_lit 1, nat_lit 4, nat_lit 3], [nat_lit 2, nat_lit 3, nat_lit 2, nat_lit 1, nat_lit 4, nat_lit 3], [nat_lit 1, nat_lit 3, nat_lit 2, nat_lit 1, nat_lit 4], [nat_lit 1, nat_lit 2, nat_lit 3, nat_lit 2, nat_lit 1, nat_lit 4], [nat_lit 1, nat_lit 3, nat_lit 2, nat_lit 1, nat_lit 4, nat_lit 3], [nat_lit 1, nat_lit 2, nat_lit 3, nat_lit 2, nat_lit 1, nat_lit 4, nat_lit 3], [nat_lit 2, nat_lit 1, nat_lit 3, nat_lit 2, nat_lit 1, nat_lit 4], [nat_lit 1, nat_lit 2, nat_lit 1, nat_lit 3, nat_lit 2, nat_lit 1, nat_lit 4], [nat_lit 2, nat_lit 1, nat_lit 3, nat_lit 2, nat_lit 1, nat_lit 4, nat_lit 3], [nat_lit 1, nat_lit 2, nat_lit 1, nat_lit 3, nat_lit 2, nat_lit 1, nat_lit 4, nat_lit 3], [nat_lit 3, nat_lit 2, nat_lit 1, nat_lit 4, nat_lit 3, nat_lit 2], [nat_lit 2, nat_lit 3, nat_lit 2, nat_lit 1, nat_lit 4, nat_lit 3, nat_lit 2], [nat_lit 1, nat_lit 3, nat_lit 2, nat_lit 1, nat_lit 4, nat_lit 3, nat_lit 2], [nat_lit 1, nat_lit 2, nat_lit 3, nat_lit 2, nat_lit 1, nat_lit 4, nat_lit 3, nat_lit 2], [nat_lit 2, nat_lit 1, nat_lit 3, nat_lit 2, nat_lit 1, nat_lit 4, nat_lit 3, nat_lit 2], [nat_lit 1, nat_lit 2, nat_lit 1, nat_lit 3, nat_lit 2, nat_lit 1, nat_lit 4, nat_lit 3, nat_lit 2], [nat_lit 4, nat_lit 3, nat_lit 2, nat_lit 1], [nat_lit 3, nat_lit 4, nat_lit 3, nat_lit 2, nat_lit 1], [nat_lit 2, nat_lit 4, nat_lit 3, nat_lit 2, nat_lit 1], [nat_lit 2, nat_lit 3, nat_lit 4, nat_lit 3, nat_lit 2, nat_lit 1], [nat_lit 3, nat_lit 2, nat_lit 4, nat_lit 3, nat_lit 2, nat_lit 1], [nat_lit 2, nat_lit 3, nat_lit 2, nat_lit 4, nat_lit 3, nat_lit 2, nat_lit 1], [nat_lit 1, nat_lit 4, nat_lit 3, nat_lit 2, nat_lit 1], [nat_lit 1, nat_lit 3, nat_lit 4, nat_lit 3, nat_lit 2, nat_lit 1], [nat_lit 1, nat_lit 2, nat_lit 4, nat_lit 3, nat_lit 2, nat_lit 1], [nat_lit 1, nat_lit 2, nat_lit 3, nat_lit 4, nat_lit 3, nat_lit 2, nat_lit 1], [nat_lit 1, nat_lit 3, nat_lit 2, nat_lit 4, nat_lit 3, nat_lit 2, nat_lit 1], [nat_lit 1, nat_lit 2, nat_lit 3, nat_lit 2, nat_lit 4, nat_lit 3, nat_lit 2, nat_lit 1], [nat_lit 2, nat_lit 1, nat_lit 4, nat_lit 3, nat_lit 2, nat_lit 1], [nat_lit 2, nat_lit 1, nat_lit 3, nat_lit 4, nat_lit 3, nat_lit 2, nat_lit 1], [nat_lit 1, nat_lit 2, nat_lit 1, nat_lit 4, nat_lit 3, nat_lit 2, nat_lit 1], [nat_lit 1, nat_lit 2, nat_lit 1, nat_lit 3, nat_lit 4, nat_lit 3, nat_lit 2, nat_lit 1], [nat_lit 2, nat_lit 1, nat_lit 3, nat_lit 2, nat_lit 4, nat_lit 3, nat_lit 2, nat_lit 1], [nat_lit 1, nat_lit 2, nat_lit 1, nat_lit 3, nat_lit 2, nat_lit 4, nat_lit 3, nat_lit 2, nat_lit 1], [nat_lit 3, nat_lit 2, nat_lit 1, nat_lit 4, nat_lit 3, nat_lit 2, nat_lit 1], [nat_lit 2, nat_lit 3, nat_lit 2, nat_lit 1, nat_lit 4, nat_lit 3, nat_lit 2, nat_lit 1], [nat_lit 1, nat_lit 3, nat_lit 2, nat_lit 1, nat_lit 4, nat_lit 3, nat_lit 2, nat_lit 1], [nat_lit 1, nat_lit 2, nat_lit 3, nat_lit 2, nat_lit 1, nat_lit 4, nat_lit 3, nat_lit 2, nat_lit 1], [nat_lit 2, nat_lit 1, nat_lit 3, nat_lit 2, nat_lit 1, nat_lit 4, nat_lit 3, nat_lit 2, nat_lit 1], [nat_lit 1, nat_lit 2, nat_lit 1, nat_lit 3, nat_lit 2, nat_lit 1, nat_lit 4, nat_lit 3, nat_lit 2, nat_lit 1]]
/-- the WORD -/
noncomputable def wdO (o : List Nat) : List Nat := nthL WDS (ixL o ORDS)
noncomputable def flO (o : List Nat) : Nat := List.rec (motive := fun _ => Nat) (nat_lit 1) (fun a _ _ => a) (wdO o)
noncomputable def tlL (l : List Nat) : List Nat := List.rec (motive := fun _ => List Nat) [] (fun _ l _ => l) l
def NBS : List (List Nat) := [[nat_lit 1, nat_lit 2, nat_lit 3, nat_lit 4, nat_lit 5], [nat_lit 2, nat_lit 1, nat_lit 3, nat_lit 4, nat_lit 5], [nat_lit 1, nat_lit 3, nat_lit 2, nat_lit 4, nat_lit 5], [nat_lit 1, nat_lit 2, nat_lit 4, nat_lit 3, nat_lit 5], [nat_lit 1, nat_lit 2, nat_lit 3, nat_lit 5, nat_lit 4]]
noncomputable def nbO (k : Nat) : List Nat := nthL NBS k
noncomputable def wdS (o : List Nat) : Bool := Bool.and (Nat.beq (sLn (wdO o)) (lenO o)) (Bool.or (Nat.beq (sLn (wdO o)) (nat_lit 0)) (Bool.and (Bool.and (Nat.ble (nat_lit 1) (flO o)) (Nat.ble (flO o) (nat_lit 4))) (eqL Nat.beq (wdO (mulO (nbO (flO o)) o)) (tlL (wdO o)))))
theorem q_wdS : lAll wdS ORDS = true := by decide +kernel
theorem ordN5 : ordN 5 = ORDS := by decide +kernel
theorem nb_in : ∀ k, 1 ≤ k → k ≤ 4 → nbO k ∈ ORDS
  | 1, _, _ => by decide +kernel
  | 2, _, _ => by decide +kernel
  | 3, _, _ => by decide +kernel
  | 4, _, _ => by decide +kernel
  | k + 5, _, h => absurd h (by omega)
theorem q_first : lAll (fun o => sRun (nat_lit 10000) (nat_lit 3) (nat_lit 13) [] [] [.inl (.natCast (codeO o))] (fun v pa m => Bool.and (eqL eqC m []) (kInt v (fun x => sNum x (fun y => Nat.beq y (flO o)))))) ORDS = true := by decide +kernel
theorem q_neigh : allL 4 (fun k => sRun (nat_lit 10000) (nat_lit 3) (nat_lit 10) [] [] [.inl (.natCast (Nat.succ k))] (fun v pa m => Bool.and (eqL eqC m []) (kInt v (fun x => sNum x (fun y => Nat.beq y (codeO (nbO (Nat.succ k)))))))) = true := by decide +kernel
section W8
variable {D : va_G} {cy : Nat → ClassId} {al : Nat → Nat} {w : va_W}
theorem c_first (l : Launch) {d : Nat} (hd : 3 ≤ d) {o : List Nat} (ho : o ∈ ORDS) : gMet l D cy al d 13 w [.int (Int32.ofNat (ocode o))] (fun v w2 => v = some (.int (Int32.ofNat (flO o))) ∧ w2 = w) := by
  have key := gMet_pure (D := D) (cy := cy) (al := al) (w := w) (r := ((fun _ => 0), (fun _ => 0))) l sPa_nil (lAll_ok q_first o ho) (z := Int32.ofNat (flO o)) (fun x pa h _ => by
    obtain ⟨n, rfl, h⟩ := sNum_ok h
    rw [sI_c, Nat.eq_of_beq_eq_true h])
  simp only [List.map_cons, List.map_nil, sVal, sI_c] at key
  rw [codeO_eq ho] at key
  exact gMet_up hd key
theorem c_neigh (l : Launch) {d : Nat} (hd : 3 ≤ d) {k : Nat} (h1 : 1 ≤ k) (h4 : k ≤ 4) : gMet l D cy al d 10 w [.int (Int32.ofNat k)] (fun v w2 => v = some (.int (Int32.ofNat (ocode (nbO k)))) ∧ w2 = w) := by
  have h := allL_ok q_neigh (k - 1) (by omega)
  rw [show Nat.succ (k - 1) = k by omega] at h
  have key := gMet_pure (D := D) (cy := cy) (al := al) (w := w) (r := ((fun _ => 0), (fun _ => 0))) l sPa_nil h (z := Int32.ofNat (codeO (nbO k))) (fun x pa h _ => by
    obtain ⟨n, rfl, h⟩ := sNum_ok h
    rw [sI_c, Nat.eq_of_beq_eq_true h])
  simp only [List.map_cons, List.map_nil, sVal, sI_c] at key
  rw [codeO_eq (nb_in k h1 h4)] at key
  exact gMet_up hd key
end W8
/-- variables from 819290 on, by a row; no memory -/
def eW (l : List Int32) : sE := (fun v => l.getD (v - 819290) 0, fun _ => 0)
theorem eW_v {l : List Int32} (i : Nat) : sI (eW l) (.var (819290 + i)) = l.getD i 0 := by
  rw [sI_v]
  show l.getD (819290 + i - 819290) 0 = _
  rw [Nat.add_sub_cancel_left]
/-- a segment without memory -/
theorem g_pure {l : Launch} {D : va_G} {cy : Nat → ClassId} {al : Nat → Nat} {k d pc : Nat} {Rt : Option Value → va_W → Prop} {At : gAt} (hFC : gFC l D cy al k d Rt At) {r : sE} {L : sL} {st : List sV} {w : va_W} {fuel : Nat} {stop : Nat → Bool} {ks : Nat → sL → List sV → Bool} {kr : Option sV → Bool} {pa : List sK} (hp : sPa r pa) (h : sx PG fuel d (PG k) stop (fun pc L st _ m => Bool.and (eqL eqC m []) (ks pc L st)) (fun v _ m => Bool.and (eqL eqC m []) (kr v)) pc L st pa [] = true)
    (hS : ∀ (pc : Nat) (L : sL) (st : List sV), ks pc L st = true → At pc (L.map (Option.map (sVal r al))) (st.map (sVal r al)) w) (hR : ∀ v : Option sV, kr v = true → Rt (v.map (sVal r al)) w) : At pc (L.map (Option.map (sVal r al))) (st.map (sVal r al)) w := by
  have key := hFC.1 r hid0 w fuel stop _ _ pc L st pa [] h hp (fun pc L st pa m h1 _ => by
    rw [Bool.and_eq_true] at h1
    have e := eqL_ok eqC_ok _ _ h1.1
    subst e
    exact hS pc L st h1.2) (fun v0 pa m h1 _ => by
    rw [Bool.and_eq_true] at h1
    have e := eqL_ok eqC_ok _ _ h1.1
    subst e
    exact hR v0 h1.2)
  exact key
-- letter
noncomputable def LL (i j : Nat) : sL := [some (.inl (.var (nat_lit 819290))), some (.inl (.natCast i)), some (.inl (.var (nat_lit 819291))), some (.inl (.var (nat_lit 819292))), some (.inl (.natCast j))]
noncomputable def LL3 (i j : Nat) : sL := [some (.inl (.var (nat_lit 819290))), some (.inl (.natCast i)), some (.inl (.var (nat_lit 819291))), some (.inl (.var (nat_lit 819293))), some (.inl (.natCast j))]
noncomputable def LL4 (i j : Nat) : sL := [some (.inl (.var (nat_lit 819290))), some (.inl (.natCast i)), some (.inl (.var (nat_lit 819293))), some (.inl (.var (nat_lit 819292))), some (.inl (.natCast j))]
theorem q_lE : allL 10 (fun i => sEnt [.inl (.var (nat_lit 819290)), .inl (.natCast i)] (PG (nat_lit 12)).2.1 (fun L => eqL eqO L [some (.inl (.var (nat_lit 819290))), some (.inl (.natCast i)), none, none, none])) = true := by decide +kernel
theorem q_l0 : allL 10 (fun i => sx PG (nat_lit 100) (nat_lit 5) (PG (nat_lit 12)) (fun pc => Nat.beq pc (nat_lit 3)) (fun pc L st _ m => Bool.and (eqL eqC m []) (kAt (nat_lit 3) [some (.inl (.var (nat_lit 819290))), some (.inl (.natCast i)), some (.inl (.var (nat_lit 819290))), none, none] [.inl (.var (nat_lit 819290))] pc L st)) (fun _ _ m => Bool.and (eqL eqC m []) false) (nat_lit 0) [some (.inl (.var (nat_lit 819290))), some (.inl (.natCast i)), none, none, none] [] [] []) = true := by decide +kernel
theorem q_l1 : allL 9 (fun i => sx PG (nat_lit 100) (nat_lit 5) (PG (nat_lit 12)) (fun pc => Nat.beq pc (nat_lit 17)) (fun pc L st _ m => Bool.and (eqL eqC m []) (kAt (nat_lit 17) (LL (Nat.succ i) (nat_lit 0)) [.inl (.var (nat_lit 819292))] pc L st)) (fun _ _ m => Bool.and (eqL eqC m []) false) (nat_lit 6) [some (.inl (.var (nat_lit 819290))), some (.inl (.natCast (Nat.succ i))), some (.inl (.var (nat_lit 819291))), none, none] [.inl (.var (nat_lit 819292))] [] []) = true := by decide +kernel
theorem q_l1r : sx PG (nat_lit 100) (nat_lit 5) (PG (nat_lit 12)) (fun pc => Nat.beq pc (nat_lit 17)) (fun _ _ _ _ m => Bool.and (eqL eqC m []) false) (fun v _ m => Bool.and (eqL eqC m []) (eqO v (some (.inl (.var (nat_lit 819292)))))) (nat_lit 6) [some (.inl (.var (nat_lit 819290))), some (.inl (.natCast (nat_lit 0))), some (.inl (.var (nat_lit 819291))), none, none] [.inl (.var (nat_lit 819292))] [] [] = true := by decide +kernel
theorem q_l20 : allL 10 (fun i => allL 10 (fun j => sx PG (nat_lit 100) (nat_lit 5) (PG (nat_lit 12)) (fun pc => Nat.beq pc (nat_lit 21)) (fun pc L st _ m => Bool.and (eqL eqC m []) (kAt (nat_lit 21) (LL i j) [.inl (.var (nat_lit 819291)), .inl (.var (nat_lit 819293))] pc L st)) (fun _ _ m => Bool.and (eqL eqC m []) false) (nat_lit 20) (LL i j) [.inl (.var (nat_lit 819293))] [] [])) = true := by decide +kernel
theorem q_l24 : allL 10 (fun i => allL 10 (fun j => sx PG (nat_lit 100) (nat_lit 5) (PG (nat_lit 12)) (fun pc => Nat.beq pc (nat_lit 26)) (fun pc L st _ m => Bool.and (eqL eqC m []) (kAt (nat_lit 26) (LL4 i j) [.inl (.var (nat_lit 819293))] pc L st)) (fun _ _ m => Bool.and (eqL eqC m []) false) (nat_lit 24) (LL i j) [.inl (.var (nat_lit 819293))] [] [])) = true := by decide +kernel
theorem q_l29 : allL 10 (fun i => allL i (fun j => Bool.or (Nat.beq (Nat.succ j) i) (sx PG (nat_lit 100) (nat_lit 5) (PG (nat_lit 12)) (fun pc => Nat.beq pc (nat_lit 17)) (fun pc L st _ m => Bool.and (eqL eqC m []) (kAt (nat_lit 17) (LL3 i (Nat.succ j)) [.inl (.var (nat_lit 819293))] pc L st)) (fun _ _ m => Bool.and (eqL eqC m []) false) (nat_lit 29) (LL i j) [.inl (.var (nat_lit 819293))] [] []))) = true := by decide +kernel
theorem q_l29r : allL 9 (fun j => sx PG (nat_lit 100) (nat_lit 5) (PG (nat_lit 12)) (fun pc => Nat.beq pc (nat_lit 17)) (fun _ _ _ _ m => Bool.and (eqL eqC m []) false) (fun v _ m => Bool.and (eqL eqC m []) (eqO v (some (.inl (.var (nat_lit 819293)))))) (nat_lit 29) (LL (Nat.succ j) j) [.inl (.var (nat_lit 819293))] [] []) = true := by decide +kernel
theorem flO_drop {o : List Nat} {l : List Nat} {j : Nat} (h : wdO o = l.drop j) (hj : j < l.length) : flO o = nthO l j := by
  have e : l.drop j = l[j] :: l.drop (j + 1) := List.drop_eq_getElem_cons hj
  rw [e] at h
  unfold flO
  rw [h, nthO_eq, List.getD_eq_getElem?_getD, List.getElem?_eq_getElem hj]
  rfl
theorem wd_next {o : List Nat} {l : List Nat} {j : Nat} (ho : o ∈ ORDS) (h : wdO o = l.drop j) (hj : j < l.length) : (1 ≤ flO o ∧ flO o ≤ 4) ∧ mulO (nbO (flO o)) o ∈ ORDS ∧ wdO (mulO (nbO (flO o)) o) = l.drop (j + 1) := by
  have h1 := lAll_ok q_wdS o ho
  unfold wdS at h1
  rw [Bool.and_eq_true, Bool.or_eq_true, Bool.and_eq_true, Bool.and_eq_true, sLn_ok] at h1
  have e : l.drop j = l[j] :: l.drop (j + 1) := List.drop_eq_getElem_cons hj
  rcases h1.2 with h2 | h2
  · have := Nat.eq_of_beq_eq_true h2
    rw [h, e] at this
    cases this
  · obtain ⟨⟨g1, g2⟩, g3⟩ := h2
    have f1 : 1 ≤ flO o := Nat.le_of_ble_eq_true g1
    have f2 : flO o ≤ 4 := Nat.le_of_ble_eq_true g2
    refine ⟨⟨f1, f2⟩, ?_, ?_⟩
    · have := mulO_in (n := 5) (by omega) (by omega) (by rw [ordN5]; exact nb_in _ f1 f2) (by rw [ordN5]; exact ho)
      rwa [ordN5] at this
    · rw [eqL_ok (fun _ _ => Nat.eq_of_beq_eq_true) _ _ g3, h, e]
      rfl
theorem c_letter (l : Launch) {D : va_G} {cy : Nat → ClassId} {al : Nat → Nat} {w : va_W} {d i : Nat} {o : List Nat} (hd : 5 ≤ d) (ho : o ∈ ORDS) (hi : i < lenO o) : gMet l D cy al d 12 w [.int (Int32.ofNat (ocode o)), .int (Int32.ofNat i)] (fun v w2 => v = some (.int (Int32.ofNat (nthO (wdO o) i))) ∧ w2 = w) := by
  refine gMet_up hd ?_
  have hl : lenO o ≤ 10 := Nat.le_of_ble_eq_true (lAll_ok lenO_tab o ho)
  have hlen : (wdO o).length = lenO o := by
    have h1 := lAll_ok q_wdS o ho
    unfold wdS at h1
    rw [Bool.and_eq_true, sLn_ok] at h1
    exact Nat.eq_of_beq_eq_true h1.1
  have i10 : i < 10 := by omega
  have key := gMet_of (l := l) (D := D) (cy := cy) (al := al) (d := 5) (k := 12) (w := w) (r := eW [Int32.ofNat (ocode o)]) (G := fun v w2 => v = some (.int (Int32.ofNat (nthO (wdO o) i))) ∧ w2 = w) (allL_ok q_lE i i10) (fun At hFC => ?_)
  · have ea : List.map (sVal (eW [Int32.ofNat (ocode o)]) al) [.inl (.var (nat_lit 819290)), .inl (.natCast i)] = [.int (Int32.ofNat (ocode o)), .int (Int32.ofNat i)] := by
      simp only [List.map_cons, List.map_nil, sVal, sI_c]
      rw [show sI (eW [Int32.ofNat (ocode o)]) (.var (nat_lit 819290)) = Int32.ofNat (ocode o) from eW_v 0]
    rw [ea] at key
    exact key
  -- values
  have Le : ∀ (a x f : Int32) (y : Int32) (j : Nat), (LL i j).map (Option.map (sVal (eW [a, x, f, y]) al)) = [some (.int a), some (.int (Int32.ofNat i)), some (.int x), some (.int f), some (.int (Int32.ofNat j))] := fun a x f y j => by
    simp only [LL, List.map_cons, List.map_nil, Option.map_some, sVal, sI_c]
    rw [show sI (eW [a, x, f, y]) (.var (nat_lit 819290)) = a from eW_v 0, show sI (eW [a, x, f, y]) (.var (nat_lit 819291)) = x from eW_v 1, show sI (eW [a, x, f, y]) (.var (nat_lit 819292)) = f from eW_v 2]
  have L3e : ∀ (a x f : Int32) (y : Int32) (j : Nat), (LL3 i j).map (Option.map (sVal (eW [a, x, f, y]) al)) = [some (.int a), some (.int (Int32.ofNat i)), some (.int x), some (.int y), some (.int (Int32.ofNat j))] := fun a x f y j => by
    simp only [LL3, List.map_cons, List.map_nil, Option.map_some, sVal, sI_c]
    rw [show sI (eW [a, x, f, y]) (.var (nat_lit 819290)) = a from eW_v 0, show sI (eW [a, x, f, y]) (.var (nat_lit 819291)) = x from eW_v 1, show sI (eW [a, x, f, y]) (.var (nat_lit 819293)) = y from eW_v 3]
  have L4e : ∀ (a x f : Int32) (y : Int32) (j : Nat), (LL4 i j).map (Option.map (sVal (eW [a, x, f, y]) al)) = [some (.int a), some (.int (Int32.ofNat i)), some (.int y), some (.int f), some (.int (Int32.ofNat j))] := fun a x f y j => by
    simp only [LL4, List.map_cons, List.map_nil, Option.map_some, sVal, sI_c]
    rw [show sI (eW [a, x, f, y]) (.var (nat_lit 819290)) = a from eW_v 0, show sI (eW [a, x, f, y]) (.var (nat_lit 819293)) = y from eW_v 3, show sI (eW [a, x, f, y]) (.var (nat_lit 819292)) = f from eW_v 2]
  have s1 : ∀ (a x f y : Int32), List.map (sVal (eW [a, x, f, y]) al) [.inl (.var (nat_lit 819292))] = [.int f] := fun a x f y => by
    simp only [List.map_cons, List.map_nil, sVal]
    rw [show sI (eW [a, x, f, y]) (.var (nat_lit 819292)) = f from eW_v 2]
  have s3 : ∀ (a x f y : Int32), List.map (sVal (eW [a, x, f, y]) al) [.inl (.var (nat_lit 819293))] = [.int y] := fun a x f y => by
    simp only [List.map_cons, List.map_nil, sVal]
    rw [show sI (eW [a, x, f, y]) (.var (nat_lit 819293)) = y from eW_v 3]
  have s13 : ∀ (a x f y : Int32), List.map (sVal (eW [a, x, f, y]) al) [.inl (.var (nat_lit 819291)), .inl (.var (nat_lit 819293))] = [.int x, .int y] := fun a x f y => by
    simp only [List.map_cons, List.map_nil, sVal]
    rw [show sI (eW [a, x, f, y]) (.var (nat_lit 819291)) = x from eW_v 1, show sI (eW [a, x, f, y]) (.var (nat_lit 819293)) = y from eW_v 3]
  -- one turn of the loop
  have turn : ∀ (a : Int32) (j : Nat) (o1 : List Nat), j < i → o1 ∈ ORDS → wdO o1 = (wdO o).drop j → (∀ o2 : List Nat, o2 ∈ ORDS → wdO o2 = (wdO o).drop (j + 1) → At 29 [some (.int a), some (.int (Int32.ofNat i)), some (.int (Int32.ofNat (ocode o2))), some (.int (Int32.ofNat (flO o1))), some (.int (Int32.ofNat j))] [.int (Int32.ofNat (flO o2))] w) → At 17 [some (.int a), some (.int (Int32.ofNat i)), some (.int (Int32.ofNat (ocode o1))), some (.int (Int32.ofNat (flO o1))), some (.int (Int32.ofNat j))] [.int (Int32.ofNat (flO o1))] w := fun a j o1 hj h1 h2 hk => by
    obtain ⟨⟨f1, f4⟩, n1, n2⟩ := wd_next h1 h2 (by omega)
    refine hFC.2 17 20 10 4 _ [.int (Int32.ofNat (flO o1))] [] _ _ ⟨_, _, rfl, rfl⟩ rfl (by decide) rfl (Or.inl rfl) (c_neigh l (by omega) f1 f4) (fun v w2 h => ?_)
    obtain ⟨rfl, rfl⟩ := h
    have g1 := g_pure hFC (al := al) (r := eW [a, Int32.ofNat (ocode o1), Int32.ofNat (flO o1), Int32.ofNat (ocode (nbO (flO o1)))]) (w := w2) sPa_nil (allL_ok (allL_ok q_l20 i i10) j (by omega)) (fun pc L st hk1 => ?_) (fun v hk1 => nomatch hk1)
    · rw [Le, s3] at g1
      exact g1
    obtain ⟨rfl, rfl, rfl⟩ := kAt_ok hk1
    rw [Le, s13]
    refine hFC.2 21 24 8 4 _ [.int (Int32.ofNat (ocode (nbO (flO o1)))), .int (Int32.ofNat (ocode o1))] [] _ _ ⟨_, _, rfl, rfl⟩ rfl (by decide) rfl (Or.inl rfl) (c_prod l (by omega) (nb_in _ f1 f4) h1 n1) (fun v w3 h => ?_)
    obtain ⟨rfl, rfl⟩ := h
    have g2 := g_pure hFC (al := al) (r := eW [a, Int32.ofNat (ocode o1), Int32.ofNat (flO o1), Int32.ofNat (ocode (mulO (nbO (flO o1)) o1))]) (w := w3) sPa_nil (allL_ok (allL_ok q_l24 i i10) j (by omega)) (fun pc L st hk2 => ?_) (fun v hk2 => nomatch hk2)
    · rw [Le, s3] at g2
      exact g2
    obtain ⟨rfl, rfl, rfl⟩ := kAt_ok hk2
    rw [L4e, s3]
    refine hFC.2 26 29 13 4 _ [.int (Int32.ofNat (ocode (mulO (nbO (flO o1)) o1)))] [] _ _ ⟨_, _, rfl, rfl⟩ rfl (by decide) rfl (Or.inl rfl) (c_first l (by omega) n1) (fun v w4 h => ?_)
    obtain ⟨rfl, rfl⟩ := h
    exact hk _ n1 n2
  have loop : ∀ (a : Int32) (m j : Nat) (o1 : List Nat), j + m + 1 = i → o1 ∈ ORDS → wdO o1 = (wdO o).drop j → At 17 [some (.int a), some (.int (Int32.ofNat i)), some (.int (Int32.ofNat (ocode o1))), some (.int (Int32.ofNat (flO o1))), some (.int (Int32.ofNat j))] [.int (Int32.ofNat (flO o1))] w := by
    intro a m
    induction m with
    | zero =>
      intro j o1 hj h1 h2
      refine turn a j o1 (by omega) h1 h2 (fun o2 k1 k2 => ?_)
      obtain rfl : i = j + 1 := by omega
      have g := g_pure hFC (al := al) (r := eW [a, Int32.ofNat (ocode o2), Int32.ofNat (flO o1), Int32.ofNat (flO o2)]) (w := w) sPa_nil (allL_ok q_l29r j (by omega)) (fun pc L st hk1 => nomatch hk1) (fun v hk1 => ?_)
      · rw [Le, s3] at g
        exact g
      rw [eqO_ok hk1]
      refine ⟨?_, rfl⟩
      show some (Value.int (sI (eW [a, Int32.ofNat (ocode o2), Int32.ofNat (flO o1), Int32.ofNat (flO o2)]) (.var (819290 + 3)))) = _
      rw [eW_v, flO_drop k2 (by omega)]
      rfl
    | succ m ih =>
      intro j o1 hj h1 h2
      refine turn a j o1 (by omega) h1 h2 (fun o2 k1 k2 => ?_)
      have hq := allL_ok (allL_ok q_l29 i i10) j (by omega)
      rw [Bool.or_eq_true] at hq
      rcases hq with hq | hq
      · have := Nat.eq_of_beq_eq_true hq
        omega
      have g := g_pure hFC (al := al) (r := eW [a, Int32.ofNat (ocode o2), Int32.ofNat (flO o1), Int32.ofNat (flO o2)]) (w := w) sPa_nil hq (fun pc L st hk1 => ?_) (fun v hk1 => nomatch hk1)
      · rw [Le, s3] at g
        exact g
      obtain ⟨rfl, rfl, rfl⟩ := kAt_ok hk1
      rw [L3e, s3]
      exact ih (j + 1) o2 (by omega) k1 k2
  have g0 := g_pure hFC (al := al) (r := eW [Int32.ofNat (ocode o)]) (w := w) sPa_nil (allL_ok q_l0 i i10) (fun pc L st hk1 => ?_) (fun v hk1 => nomatch hk1)
  · exact g0
  obtain ⟨rfl, rfl, rfl⟩ := kAt_ok hk1
  have ev : sI (eW [Int32.ofNat (ocode o)]) (.var (nat_lit 819290)) = Int32.ofNat (ocode o) := eW_v 0
  have e1 : List.map (Option.map (sVal (eW [Int32.ofNat (ocode o)]) al)) [some (.inl (.var (nat_lit 819290))), some (.inl (.natCast i)), some (.inl (.var (nat_lit 819290))), none, none] = [some (.int (Int32.ofNat (ocode o))), some (.int (Int32.ofNat i)), some (.int (Int32.ofNat (ocode o))), none, none] := by
    simp only [List.map_cons, List.map_nil, Option.map_some, Option.map_none, sVal, sI_c, ev]
  have e2 : List.map (sVal (eW [Int32.ofNat (ocode o)]) al) [.inl (.var (nat_lit 819290))] = [.int (Int32.ofNat (ocode o))] := by
    simp only [List.map_cons, List.map_nil, sVal, ev]
  rw [e1, e2]
  refine hFC.2 3 6 13 4 _ [.int (Int32.ofNat (ocode o))] [] _ _ ⟨_, _, rfl, rfl⟩ rfl (by decide) rfl (Or.inl rfl) (c_first l (by omega) ho) (fun v w2 h => ?_)
  obtain ⟨rfl, rfl⟩ := h
  have Li : ∀ (a x f y : Int32) (i : Nat), List.map (Option.map (sVal (eW [a, x, f, y]) al)) [some (.inl (.var (nat_lit 819290))), some (.inl (.natCast i)), some (.inl (.var (nat_lit 819291))), none, none] = [some (.int a), some (.int (Int32.ofNat i)), some (.int x), none, none] := fun a x f y i => by
    simp only [List.map_cons, List.map_nil, Option.map_some, Option.map_none, sVal, sI_c]
    rw [show sI (eW [a, x, f, y]) (.var (nat_lit 819290)) = a from eW_v 0, show sI (eW [a, x, f, y]) (.var (nat_lit 819291)) = x from eW_v 1]
  have d0 : wdO o = (wdO o).drop 0 := rfl
  cases i with
  | zero =>
    have g := g_pure hFC (al := al) (r := eW [Int32.ofNat (ocode o), Int32.ofNat (ocode o), Int32.ofNat (flO o), 0]) (w := w2) sPa_nil q_l1r (fun pc L st hk1 => nomatch hk1) (fun v hk1 => ?_)
    · rw [Li, s1] at g
      exact g
    rw [eqO_ok hk1]
    refine ⟨?_, rfl⟩
    show some (Value.int (sI (eW [Int32.ofNat (ocode o), Int32.ofNat (ocode o), Int32.ofNat (flO o), 0]) (.var (819290 + 2)))) = _
    rw [eW_v, ← flO_drop d0 (by omega)]
    rfl
  | succ i =>
    have g := g_pure hFC (al := al) (r := eW [Int32.ofNat (ocode o), Int32.ofNat (ocode o), Int32.ofNat (flO o), 0]) (w := w2) sPa_nil (allL_ok q_l1 i (by omega)) (fun pc L st hk1 => ?_) (fun v hk1 => nomatch hk1)
    · rw [Li, s1] at g
      exact g
    obtain ⟨rfl, rfl, rfl⟩ := kAt_ok hk1
    rw [Le, s1]
    exact loop _ i 0 o (by omega) ho d0
