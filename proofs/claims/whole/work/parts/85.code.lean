/-! 85: the model: codeOf, adds (by wip/whole/mk85.py) -/
noncomputable def cdE (n : Nat) (o : List Nat) (k : Nat) : sX := Nat.rec (motive := fun _ => sX) (.pow (.mul (.natCast (nat_lit 0)) (.var (Nat.add (nat_lit 368640) (plO n o)))) (nat_lit 0)) (fun k ih => .pow (.mul (.pow (.mul (.natCast (nat_lit 5)) ih) (nat_lit 2)) (.var (Nat.add (nat_lit 368640) (plO (Nat.sub n (Nat.succ k)) o)))) (nat_lit 0)) k
noncomputable def cdV (n : Nat) (row : Nat → Nat) (o : List Nat) (k : Nat) : Nat := Nat.rec (motive := fun _ => Nat) (row (plO n o)) (fun k ih => Nat.add (Nat.mul (nat_lit 5) ih) (row (plO (Nat.sub n (Nat.succ k)) o))) k
theorem pl_tab : lAll (fun o => allL 5 (fun i => Bool.and (Nat.ble (nat_lit 1) (plO (Nat.succ i) o)) (Nat.ble (plO (Nat.succ i) o) (nat_lit 5)))) ORDS = true := by decide +kernel
theorem pl_n : allL 5 (fun n => lAll (fun o => allL (Nat.succ n) (fun i => Nat.ble (plO (Nat.succ i) o) (Nat.succ n))) (ordN (Nat.succ n))) = true := by decide +kernel
theorem pl_le {n i : Nat} {o : List Nat} (hn : 1 ≤ n) (hn5 : n ≤ 5) (ho : o ∈ ordN n) (h1 : 1 ≤ i) (hi : i ≤ n) : 1 ≤ plO i o ∧ plO i o ≤ n := by
  have g1 := allL_ok (lAll_ok pl_tab o (ordN_in ho)) (i - 1) (by omega)
  have g2 := allL_ok (lAll_ok (allL_ok pl_n (n - 1) (by omega)) o (by rw [show Nat.succ (n - 1) = n by omega]; exact ho)) (i - 1) (by show i - 1 < n - 1 + 1; omega)
  rw [Bool.and_eq_true] at g1
  rw [show Nat.succ (i - 1) = i by omega] at g1 g2
  rw [show Nat.succ (n - 1) = n by omega] at g2
  exact ⟨Nat.le_of_ble_eq_true g1.1, Nat.le_of_ble_eq_true g2⟩
theorem cdE_ok {r : sE} {n : Nat} {row : Nat → Nat} {o : List Nat} (hn : 1 ≤ n) (hn5 : n ≤ 5) (ho : o ∈ ordN n) (hr : ∀ p, 1 ≤ p → p ≤ n → r.1 (mP 21 p) = Int32.ofNat (row p)) : ∀ k, k < n → sI r (cdE n o k) = Int32.ofNat (cdV n row o k) := by
  have hv : ∀ i, 1 ≤ i → i ≤ n → (sD r (.var (Nat.add (nat_lit 368640) (plO i o)))).1 = Int32.ofNat (row (plO i o)) := fun i h1 h2 => by
    obtain ⟨g1, g2⟩ := pl_le hn hn5 ho h1 h2
    rw [sD_v, ← hr _ g1 g2]
    exact congrArg r.1 (show 368640 + plO i o = mP 21 (plO i o) by unfold mP; omega)
  intro k
  induction k with
  | zero =>
    intro _
    show (sD r (.pow (.mul (.natCast 0) (.var (Nat.add (nat_lit 368640) (plO n o)))) 0)).1 = _
    rw [sD_b]
    show (sD r (.natCast 0)).1 + (sD r (.var (Nat.add (nat_lit 368640) (plO n o)))).1 = Int32.ofNat (row (plO n o))
    rw [hv n hn (Nat.le_refl _), sD_c]
    show Int32.ofNat 0 + _ = _
    rw [← Int32.ofNat_add, Nat.zero_add]
  | succ k ih =>
    intro hk
    show (sD r (.pow (.mul (.pow (.mul (.natCast 5) (cdE n o k)) 2) (.var (Nat.add (nat_lit 368640) (plO (n - (k + 1)) o)))) 0)).1 = Int32.ofNat (5 * cdV n row o k + row (plO (n - (k + 1)) o))
    rw [sD_b]
    show (sD r (.pow (.mul (.natCast 5) (cdE n o k)) 2)).1 + (sD r (.var (Nat.add (nat_lit 368640) (plO (n - (k + 1)) o)))).1 = _
    rw [hv (n - (k + 1)) (by omega) (by omega), sD_b]
    show (sD r (.natCast 5)).1 * sI r (cdE n o k) + _ = _
    rw [ih (by omega), sD_c]
    show Int32.ofNat 5 * _ + _ = _
    rw [← Int32.ofNat_mul, ← Int32.ofNat_add]
theorem cdV_lt {n : Nat} {row : Nat → Nat} {o : List Nat} (hn : 1 ≤ n) (hn5 : n ≤ 5) (ho : o ∈ ordN n) (hr : ∀ p, 1 ≤ p → p ≤ n → row p < 5) : ∀ k, k < n → cdV n row o k < 5 ^ (k + 1) := by
  intro k
  induction k with
  | zero =>
    intro _
    obtain ⟨g1, g2⟩ := pl_le hn hn5 ho hn (Nat.le_refl _)
    exact hr _ g1 g2
  | succ k ih =>
    intro hk
    obtain ⟨g1, g2⟩ := pl_le hn hn5 ho (i := n - (k + 1)) (by omega) (by omega)
    have h1 := ih (by omega)
    have h2 := hr _ g1 g2
    show 5 * cdV n row o k + row (plO (n - (k + 1)) o) < 5 ^ (k + 1 + 1)
    rw [Nat.pow_succ]
    omega
theorem q_cd : allL 5 (fun n => lAll (fun o => sBeg (nat_lit 69) (nat_lit 45) tMv (memB [nat_lit 0, nat_lit 21, nat_lit 23]) ((nat_lit 0, nat_lit 1, .natCast (Nat.succ n)) :: oArr (nat_lit 23) o) (fun m0 => sRun (nat_lit 10000) (nat_lit 4) (nat_lit 171) [] m0 [.inr (.inr (some (nat_lit 0)))] (fun v _ m => Bool.and (eqL eqC m m0) (kInt v (fun x => eqX x (cdE (Nat.succ n) o n)))))) (ordN (Nat.succ n))) = true := by decide +kernel
/-- a run of the model that changes nothing, with an int as its answer -/
theorem gM_sameX (l : Launch) {D : va_G} {cy : Nat → ClassId} {al : Nat → Nat} {rest : va_W} {r : sE} {fuel d k : Nat} {K : Nat → Bool} {ovs : List sOv} {as : List sV} {e : sX} (hov : oMs r ovs) (h : sBeg (nat_lit 69) (nat_lit 45) tMv K ovs (fun m0 => sRun fuel d k [] m0 as (fun v _ m => Bool.and (eqL eqC m m0) (kInt v (fun x => eqX x e)))) = true) : gMet l D cy al d k (tW r al cy rest 45 tMv) (as.map (sVal r al)) (fun v w2 => v = some (.int (sI r e)) ∧ w2 = tW r al cy rest 45 tMv) := by
  unfold sBeg at h
  rw [Bool.and_eq_true] at h
  have hP := ovP_ovr (b := 69) (ovP_msk (r := r) (al := al) (n := 45) (t := tMv) (K := K)) _ h.1 hov
  have hw := ovP_w (cy := cy) (rest := rest) (fun i hi => (tMv_can i hi).1) hP
  rw [← hw]
  refine gMet_run l sPa_nil h.2 (fun v pa m h1 h2 => ?_)
  rw [Bool.and_eq_true] at h1
  have e1 := eqL_ok eqC_ok _ _ h1.1
  subst e1
  obtain ⟨x, rfl, h3⟩ := kInt_ok h1.2
  rw [eqX_ok _ _ h3]
  exact ⟨rfl, rfl⟩
theorem c_cd (l : Launch) {D : va_G} {cy : Nat → ClassId} {al : Nat → Nat} {rest : va_W} {r : sE} {d n : Nat} {o : List Nat} {row : Nat → Nat} (hd : 4 ≤ d) (hn : 1 ≤ n) (hn5 : n ≤ 5) (hnr : r.1 (mP 0 1) = Int32.ofNat n) (ho : o ∈ ordN n) (hm : hasO r 23 o) (hr : ∀ p, 1 ≤ p → p ≤ n → r.1 (mP 21 p) = Int32.ofNat (row p)) : gMet l D cy al d 171 (tW r al cy rest 45 tMv) [.ref (al 0)] (fun v w2 => v = some (.int (Int32.ofNat (cdV n row o (n - 1)))) ∧ w2 = tW r al cy rest 45 tMv) := by
  have h := lAll_ok (allL_ok q_cd (n - 1) (by omega)) o (by rw [show Nat.succ (n - 1) = n by omega]; exact ho)
  rw [show Nat.succ (n - 1) = n by omega] at h
  refine gMet_up hd ((gM_sameX l (oM_cons (by rw [sI_c]; exact hnr) (oArr_ok hm)) h).mono (fun v w q => ⟨?_, q.2⟩))
  rw [q.1, cdE_ok hn hn5 ho hr (n - 1) (by omega)]
theorem q_len23 : allL 5 (fun n => lAll (fun o => sBeg (nat_lit 69) (nat_lit 45) tMv (KMl (nat_lit 23)) ((nat_lit 0, nat_lit 1, .natCast (Nat.succ n)) :: oArr (nat_lit 23) o) (fun m0 => sRun (nat_lit 10000) (nat_lit 2) (nat_lit 157) [] m0 [.inr (.inr (some (nat_lit 0))), .inr (.inr (some (nat_lit 23)))] (fun v _ m => Bool.and (eqL eqC m m0) (kInt v (fun x => sNum x (fun y => Nat.beq y (lenO o))))))) (ordN (Nat.succ n))) = true := by decide +kernel
theorem c_len23 (l : Launch) {D : va_G} {cy : Nat → ClassId} {al : Nat → Nat} {rest : va_W} {r : sE} {d n : Nat} {o : List Nat} (hd : 2 ≤ d) (hn : 1 ≤ n) (hn5 : n ≤ 5) (hnr : r.1 (mP 0 1) = Int32.ofNat n) (ho : o ∈ ordN n) (hm : hasO r 23 o) : gMet l D cy al d 157 (tW r al cy rest 45 tMv) [.ref (al 0), .ref (al 23)] (fun v w2 => v = some (.int (Int32.ofNat (lenO o))) ∧ w2 = tW r al cy rest 45 tMv) := by
  have h := allL_ok q_len23 (n - 1) (by omega)
  rw [show Nat.succ (n - 1) = n by omega] at h
  exact gMet_up hd (gM_same l (oM_cons (by rw [sI_c]; exact hnr) (oArr_ok hm)) (lAll_ok h o ho))
-- what adds says
noncomputable def restO (n : Nat) : List Nat := nthL [[], [nat_lit 2, nat_lit 3, nat_lit 4, nat_lit 5], [nat_lit 3, nat_lit 4, nat_lit 5], [nat_lit 4, nat_lit 5], [nat_lit 5], []] n
noncomputable def appL (a b : List Nat) : List Nat := List.rec (motive := fun _ => List Nat) b (fun x _ ih => x :: ih) a
theorem appL_eq (a b : List Nat) : appL a b = a ++ b := by
  induction a with
  | nil => rfl
  | cons x a ih => show x :: appL a b = _; rw [ih]; rfl
noncomputable def sgI (o : List Nat) : Int := Nat.rec (motive := fun _ => Int) 1 (fun _ _ => -1) (Nat.mod (lenO o) (nat_lit 2))
noncomputable def nuU (N : Nat → Int) (c : Nat) (x : Int) (j : Nat) : Int := Bool.rec (motive := fun _ => Int) (N j) x (Nat.beq j c)
noncomputable def adB (n : Nat) (row : Nat → Nat) (q : Int) (o : List Nat) (N : Nat → Int) : Nat → Int := nuU N (cdV n row o (Nat.sub n (nat_lit 1))) (N (cdV n row o (Nat.sub n (nat_lit 1))) + q * sgI o)
noncomputable def adL (f : Nat → (Nat → Int) → Nat → Int) (c : Nat) : Nat → (Nat → Int) → Nat → Int := Nat.rec (motive := fun _ => Nat → (Nat → Int) → Nat → Int) (fun _ N => N) (fun _ ih v N => ih (Nat.succ v) (f v N)) c
noncomputable def okV (col : Nat → Nat) (tr : List Nat) (i v : Nat) : Bool := Bool.and (Nat.beq (col v) (col i)) (Bool.not (memB tr v))
noncomputable def adN (n : Nat) (col row : Nat → Nat) (q : Int) (m : Nat) : Nat → List Nat → (Nat → Int) → Nat → Int := Nat.rec (motive := fun _ => Nat → List Nat → (Nat → Int) → Nat → Int) (fun _ tr N => adB n row q (appL tr (restO n)) N) (fun _ ih i tr N => adL (fun v N => Bool.rec (motive := fun _ => Nat → Int) N (ih (Nat.succ i) (appL tr [v]) N) (okV col tr i v)) n (nat_lit 1) N) m
noncomputable def allT (n k : Nat) : (List Nat → Bool) → Bool := Nat.rec (motive := fun _ => (List Nat → Bool) → Bool) (fun f => f []) (fun _ ih f => allL n (fun a => ih (fun l => f (Nat.succ a :: l)))) k
theorem allT_ok {n : Nat} : ∀ (k : Nat) (f : List Nat → Bool), allT n k f = true → ∀ l : List Nat, l.length = k → (∀ x ∈ l, 1 ≤ x ∧ x ≤ n) → f l = true
  | 0, f, h, l, hl, _ => by
    have : l = [] := List.length_eq_zero_iff.mp hl
    subst this
    exact h
  | k + 1, f, h, l, hl, hx => by
    cases l with
    | nil => cases hl
    | cons a l =>
      have ha := hx a List.mem_cons_self
      have h2 : allL n (fun a => allT n k (fun l => f (Nat.succ a :: l))) = true := h
      have h3 := allL_ok h2 (a - 1) (by omega)
      have h4 := allT_ok k _ h3 l (by simpa using hl) (fun x hm => hx x (List.mem_cons_of_mem _ hm))
      have h5 : f (Nat.succ (a - 1) :: l) = true := h4
      rwa [show Nat.succ (a - 1) = a by omega] at h5
noncomputable def ndB (l : List Nat) : Bool := List.rec (motive := fun _ => Bool) true (fun a l ih => Bool.and (Bool.not (memB l a)) ih) l
theorem memB_ok {l : List Nat} {a : Nat} : memB l a = true ↔ a ∈ l := by
  induction l with
  | nil => exact ⟨(fun h => nomatch (show false = true from h)), fun h => absurd h List.not_mem_nil⟩
  | cons b l ih =>
    have e : memB (b :: l) a = Bool.or (Nat.beq b a) (memB l a) := rfl
    rw [e, Bool.or_eq_true, List.mem_cons, ih]
    constructor
    · intro h
      rcases h with h | h
      · exact Or.inl (Nat.eq_of_beq_eq_true h).symm
      · exact Or.inr h
    · intro h
      rcases h with h | h
      · left
        rw [h]
        exact Nat.beq_refl _
      · exact Or.inr h
theorem ndB_ok : ∀ {l : List Nat}, l.Nodup → ndB l = true
  | [], _ => rfl
  | a :: l, h => by
    rw [List.nodup_cons] at h
    show Bool.and (Bool.not (memB l a)) (ndB l) = true
    rw [Bool.and_eq_true]
    refine ⟨?_, ndB_ok h.2⟩
    cases hq : memB l a with
    | false => rfl
    | true => exact absurd (memB_ok.mp hq) h.1
theorem tr_tab : allL 5 (fun n => allT (Nat.succ n) (Nat.succ n) (fun l => Bool.or (Bool.not (ndB l)) (isP (Nat.succ n) (appL l (restO (Nat.succ n)))))) = true := by decide +kernel
theorem tr_in {n : Nat} {tr : List Nat} (hn : 1 ≤ n) (hn5 : n ≤ 5) (hl : tr.length = n) (hx : ∀ x ∈ tr, 1 ≤ x ∧ x ≤ n) (hnd : tr.Nodup) : appL tr (restO n) ∈ ordN n := by
  have h := allL_ok tr_tab (n - 1) (by omega)
  rw [show Nat.succ (n - 1) = n by omega] at h
  have h2 := allT_ok _ _ h tr hl hx
  rw [ndB_ok hnd, Bool.not_true, Bool.false_or] at h2
  exact isP_in hn hn5 h2
