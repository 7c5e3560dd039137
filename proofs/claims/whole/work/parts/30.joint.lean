/-! 30: runs from a template, with some places told; the class and then the model -/
noncomputable def rSet {α : Type} (l : List α) : Nat → α → List α := List.rec (motive := fun _ => Nat → α → List α) (fun _ _ => []) (fun a l ih n v => Nat.rec (motive := fun _ => List α) (v :: l) (fun m _ => a :: ih m v) n) l
theorem rSet_eq {α : Type} (l : List α) : ∀ (n : Nat) (v : α), rSet l n v = l.set n v := by
  induction l with
  | nil => intro n v; cases n <;> rfl
  | cons a l ih =>
    intro n v
    cases n with
    | zero => rfl
    | succ n => show a :: rSet l n v = _; rw [ih]; rfl
noncomputable def rMod {α : Type} (f : α → α) (l : List α) : Nat → List α := List.rec (motive := fun _ => Nat → List α) (fun _ => []) (fun a l ih n => Nat.rec (motive := fun _ => List α) (f a :: l) (fun m _ => a :: ih m) n) l
theorem rMod_get {α : Type} (f : α → α) (l : List α) : ∀ (n i : Nat), (rMod f l n)[i]? = if i = n then l[i]?.map f else l[i]? := by
  induction l with
  | nil => intro n i; cases n <;> simp [rMod]
  | cons a l ih =>
    intro n i
    cases n with
    | zero =>
      show (f a :: l)[i]? = _
      cases i with
      | zero => simp
      | succ i => simp
    | succ n =>
      show (a :: rMod f l n)[i]? = _
      cases i with
      | zero => simp
      | succ i => simp [ih]
theorem rMod_len {α : Type} (f : α → α) (l : List α) : ∀ (n : Nat), (rMod f l n).length = l.length := by
  induction l with
  | nil => intro n; cases n <;> rfl
  | cons a l ih =>
    intro n
    cases n with
    | zero => rfl
    | succ n => show (a :: rMod f l n).length = _; simp [ih]
/-- a place told: (cell, place, what it is) -/
abbrev sOv : Type := Nat × Nat × sX
noncomputable def ovr (ovs : List sOv) (mem : sM) : sM := List.rec (motive := fun _ => sM) mem (fun q _ ih => rMod (fun c => (c.1, c.2.1, rSet c.2.2 q.2.1 (.inl q.2.2))) ih q.1) ovs
noncomputable def lAll {α : Type} (f : α → Bool) (l : List α) : Bool := List.rec (motive := fun _ => Bool) true (fun a _ ih => Bool.and (f a) ih) l
theorem lAll_ok {α : Type} {f : α → Bool} : ∀ {l : List α}, lAll f l = true → ∀ a ∈ l, f a = true
  | [], _, _, h => nomatch h
  | a :: l, h, b, hb => by
    have h2 : Bool.and (f a) (lAll f l) = true := h
    rw [Bool.and_eq_true] at h2
    rcases List.mem_cons.mp hb with rfl | hb
    · exact h2.1
    · exact lAll_ok h2.2 b hb
noncomputable def ovOk (b : Nat) (t : Nat → sC) (K : Nat → Bool) (q : sOv) : Bool := Bool.and (K q.1) (sGet (t q.1).2.2 q.2.1 (fun x => eqV x (.inl (.var (Nat.add (Nat.mul (nat_lit 4096) (Nat.add b q.1)) q.2.1)))))
/-- the memory m means the template, place for place -/
def ovP (r : sE) (al : Nat → Nat) (n : Nat) (t : Nat → sC) (K : Nat → Bool) (mem : sM) : Prop := mem.length = n ∧ ∀ i c, mem[i]? = some c → (K i = false ∧ c = (7, i, [])) ∨ (K i = true ∧ c.1 = (t i).1 ∧ c.2.1 = (t i).2.1 ∧ c.2.2.length = (t i).2.2.length ∧ ∀ (j : Nat) (x y : sV), (t i).2.2[j]? = some x → c.2.2[j]? = some y → sVal r al x = sVal r al y)
theorem ovP_msk {r : sE} {al : Nat → Nat} {n : Nat} {t : Nat → sC} {K : Nat → Bool} : ovP r al n t K (msk n t K) := by
  refine ⟨by simp [msk_eq], fun i c hc => ?_⟩
  rw [msk_eq] at hc
  rw [List.getElem?_map] at hc
  obtain ⟨j, h1, h2⟩ := Option.map_eq_some_iff.mp hc
  have hj : j = i := by
    obtain ⟨h3, h4⟩ := List.getElem?_eq_some_iff.mp h1
    rw [List.getElem_range] at h4
    exact h4.symm
  subst hj
  cases hK : K j with
  | false => rw [hK] at h2; exact Or.inl ⟨rfl, h2.symm⟩
  | true =>
    rw [hK] at h2
    have h3 : t j = c := h2
    subst h3
    exact Or.inr ⟨rfl, rfl, rfl, rfl, fun j2 x y h4 h5 => by rw [h4] at h5; cases h5; rfl⟩
theorem ovP_ovr {b : Nat} {r : sE} {al : Nat → Nat} {n : Nat} {t : Nat → sC} {K : Nat → Bool} {mem : sM} (h : ovP r al n t K mem) : ∀ (ovs : List sOv), lAll (ovOk b t K) ovs = true → (∀ q ∈ ovs, r.1 (4096 * (b + q.1) + q.2.1) = sI r q.2.2) → ovP r al n t K (ovr ovs mem)
  | [], _, _ => h
  | q :: ovs, h1, h2 => by
    have h3 : Bool.and (ovOk b t K q) (lAll (ovOk b t K) ovs) = true := h1
    rw [Bool.and_eq_true] at h3
    have ih := ovP_ovr h ovs h3.2 (fun z hz => h2 z (List.mem_cons_of_mem _ hz))
    have h4 := h3.1
    unfold ovOk at h4
    rw [Bool.and_eq_true] at h4
    obtain ⟨hKq, h5⟩ := h4
    obtain ⟨x0, hx0, hx1⟩ := sGet_ok _ _ _ h5
    have ex := eqV_ok hx1
    have sem := h2 q List.mem_cons_self
    show ovP r al n t K (rMod (fun c => (c.1, c.2.1, rSet c.2.2 q.2.1 (.inl q.2.2))) (ovr ovs mem) q.1)
    refine ⟨by rw [rMod_len]; exact ih.1, fun i c hc => ?_⟩
    rw [rMod_get] at hc
    by_cases e : i = q.1
    · rw [if_pos e] at hc
      obtain ⟨c0, h6, h7⟩ := Option.map_eq_some_iff.mp hc
      rcases ih.2 i c0 h6 with ⟨k1, -⟩ | ⟨k1, k2, k3, k4, k5⟩
      · rw [e, hKq] at k1
        cases k1
      · subst h7
        refine Or.inr ⟨k1, k2, k3, by simp only [rSet_eq, List.length_set]; exact k4, fun j x y hx hy => ?_⟩
        simp only [rSet_eq] at hy
        rw [List.getElem?_set] at hy
        by_cases e2 : q.2.1 = j
        · rw [if_pos e2] at hy
          subst e2
          subst e
          rw [hx0] at hx
          cases hx
          split at hy
          · cases hy
            rw [ex]
            show Value.int (sI r (.var (4096 * (b + q.1) + q.2.1))) = Value.int (sI r q.2.2)
            simp only [sI, sD_v]
            rw [sem]
          · cases hy
        · rw [if_neg e2] at hy
          exact k5 j x y hx hy
    · rw [if_neg e] at hc
      exact ih.2 i c hc
theorem ovP_w {r : sE} {al : Nat → Nat} {cy : Nat → ClassId} {rest : va_W} {n : Nat} {t : Nat → sC} {K : Nat → Bool} {mem : sM} (hk : ∀ i, i < n → (t i).1 ≤ 6) (h : ovP r al n t K mem) : sW r al cy (mHid r al cy t) rest mem = tW r al cy rest n t := by
  refine sW_ext h.1 (fun i c hc => ?_)
  have hi : i < n := by have := (List.getElem?_eq_some_iff.mp hc).1; rw [h.1] at this; exact this
  rcases h.2 i c hc with ⟨-, rfl⟩ | ⟨-, k2, k3, k4, k5⟩
  · rfl
  · have h6 := hk i hi
    generalize t i = tc at h6 k2 k3 k4 k5 ⊢
    obtain ⟨tk, tu, tv⟩ := tc
    obtain ⟨k, u, vs⟩ := c
    have e1 : k = tk := k2
    have e2 : u = tu := k3
    subst e1 e2
    have e4 : vs.length = tv.length := k4
    have e5 : ∀ (j : Nat) (x y : sV), tv[j]? = some x → vs[j]? = some y → sVal r al x = sVal r al y := k5
    have none : ∀ j : Nat, tv[j]? = none → vs[j]? = none := fun j hx => by
      rw [List.getElem?_eq_none_iff] at hx ⊢
      omega
    have key : ∀ (j : Nat) (x : sV), tv[j]? = some x → ∃ y, vs[j]? = some y ∧ sVal r al x = sVal r al y := fun j x hx => by
      have hj : j < vs.length := by have := (List.getElem?_eq_some_iff.mp hx).1; omega
      exact ⟨vs[j], List.getElem?_eq_getElem hj, e5 j x _ hx (List.getElem?_eq_getElem hj)⟩
    have kI : (fun j : Nat => sInt r vs[j]?) = fun j : Nat => sInt r tv[j]? := by
      funext j
      cases hx : tv[j]? with
      | none => rw [none j hx]
      | some x => obtain ⟨y, q1, q2⟩ := key j x hx; rw [q1]; exact (fit_int q2).symm
    have kJ : (fun j : Nat => sLng r vs[j]?) = fun j : Nat => sLng r tv[j]? := by
      funext j
      cases hx : tv[j]? with
      | none => rw [none j hx]
      | some x => obtain ⟨y, q1, q2⟩ := key j x hx; rw [q1]; exact (fit_lng q2).symm
    have kR : (fun j : Nat => sRef al vs[j]?) = fun j : Nat => sRef al tv[j]? := by
      funext j
      cases hx : tv[j]? with
      | none => rw [none j hx]
      | some x => obtain ⟨y, q1, q2⟩ := key j x hx; rw [q1]; exact (fit_ref q2).symm
    have kM : vs.map (sVal r al) = tv.map (sVal r al) := by
      apply List.ext_getElem?
      intro j
      rw [List.getElem?_map, List.getElem?_map]
      cases hx : tv[j]? with
      | none => rw [none j hx]
      | some x => obtain ⟨y, q1, q2⟩ := key j x hx; rw [q1]; exact (congrArg some q2).symm
    rcases (show k = 0 ∨ k = 1 ∨ k = 2 ∨ k = 3 ∨ k = 4 ∨ k = 5 ∨ k = 6 by have : k ≤ 6 := h6; omega) with rfl | rfl | rfl | rfl | rfl | rfl | rfl
    · simp only [sCe, kM]
    · simp only [sCe, kI, e4]
    · simp only [sCe, kI, e4]
    · simp only [sCe, kI, e4]
    · simp only [sCe, kJ, e4]
    · simp only [sCe, kR, e4]
    · simp only [sCe, kR, e4]
/-- a run's beginning: the template, the cells outside K hidden, the places ovs told -/
noncomputable def sBeg (b n : Nat) (t : Nat → sC) (K : Nat → Bool) (ovs : List sOv) (k : sM → Bool) : Bool := Bool.and (lAll (ovOk b t K) ovs) (k (ovr ovs (msk n t K)))
theorem gT_run (l : Launch) {D : va_G} {cy : Nat → ClassId} {al : Nat → Nat} {r : sE} {rest : va_W} {b n fuel d k : Nat} {t t2 : Nat → sC} {K : Nat → Bool} {ovs : List sOv} {pa : List sK} {as : List sV} {kr : sM → sKr} {G : Option Value → va_W → Prop} (hcan : ∀ i, i < n → (t i).1 ≤ 6 ∧ fitC (b + i) (t i) (t i) = true) (ht : ∀ i, i < n → K i = false → t2 i = t i) (hp : sPa r pa) (hov : ∀ q ∈ ovs, r.1 (4096 * (b + q.1) + q.2.1) = sI r q.2.2)
    (h : sBeg b n t K ovs (fun mem0 => sRun fuel d k pa mem0 as (fun v pa mem => Bool.and (fitM b n t2 K mem) (kr mem0 v pa mem))) = true)
    (hG : ∀ (mem0 : sM) (v : Option sV) (pa : List sK) (mem : sM), ovP r al n t K mem0 → kr mem0 v pa mem = true → sPa r pa → fitM b n t2 K mem = true → G (v.map (sVal r al)) (tW (eOf b r mem) al cy rest n t2)) : gMet l D cy al d k (tW r al cy rest n t) (as.map (sVal r al)) G := by
  unfold sBeg at h
  rw [Bool.and_eq_true] at h
  have hP := ovP_ovr (b := b) (ovP_msk (r := r) (al := al) (n := n) (t := t) (K := K)) ovs h.1 hov
  have hw := ovP_w (cy := cy) (rest := rest) (fun i hi => (hcan i hi).1) hP
  rw [← hw]
  refine gMet_run l hp h.2 (fun v pa1 mem h1 h2 => ?_)
  rw [Bool.and_eq_true] at h1
  rw [fit_w h1.1 (fun i hi hK => ⟨ht i hi hK, (hcan i hi).2⟩)]
  exact hG _ v pa1 mem hP h1.2 h2 h1.1
/-- the environment behind both runs -/
def eJ (r : sE) (mX mM : sM) : sE := (fun v => if v / 4096 < 69 then (eOf 0 r mX).1 v else (eOf 69 r mM).1 v, fun v => if v / 4096 < 69 then (eOf 0 r mX).2 v else (eOf 69 r mM).2 v)
/-- of two environments: the first for the class' places, the second for the model's -/
def eB (a b : sE) : sE := (fun v => if v / 4096 < 69 then a.1 v else b.1 v, fun v => if v / 4096 < 69 then a.2 v else b.2 v)
/-- the answer's kind is the method's: an int (or boolean), a long -/
def kdV (k : Nat) (v : Option Value) : Prop := ((PG k).2.2.2.2 = 1 ∧ ∃ x, v = some (.int x)) ∨ ((PG k).2.2.2.2 = 3 ∧ ∃ x, v = some (.long x))
noncomputable def kdS (k : Nat) (v : Option sV) : Bool := match v with
  | some (.inl _) => Nat.beq (PG k).2.2.2.2 (nat_lit 1)
  | some (.inr (.inl _)) => Nat.beq (PG k).2.2.2.2 (nat_lit 3)
  | _ => false
theorem kdS_ok {k : Nat} {r : sE} {al : Nat → Nat} {v : Option sV} (h : kdS k v = true) : kdV k (v.map (sVal r al)) := by
  rcases v with _ | x | x | x
  · cases h
  · exact Or.inl ⟨Nat.eq_of_beq_eq_true h, _, rfl⟩
  · exact Or.inr ⟨Nat.eq_of_beq_eq_true h, _, rfl⟩
  · cases h
theorem kdS_ref {k : Nat} {r : sE} {a b : Nat → Nat} {v : Option sV} (h : kdS k v = true) : v.map (sVal r a) = v.map (sVal r b) := by
  rcases v with _ | x | x | x
  · cases h
  · rfl
  · rfl
  · cases h
/-- an operation of both: from the environment r, the answers are the same and P holds behind -/
def OpOk (l : Launch) (D : va_G) (cy : Nat → ClassId) (alX alM : Nat → Nat) (d : Nat) (r : sE) (kX kM : Nat) (as : List Value) (P : sE → Prop) : Prop :=
  ∃ Mid : Option Value → sE → Prop,
    (∀ rest, gMet l D cy alX d kX (tW r alX cy rest 68 tXv) (.ref (alX 0) :: as) (fun v w => ∃ r1, Mid v r1 ∧ w = tW r1 alX cy rest 68 tXv)) ∧
    (∀ v r1, Mid v r1 → ∀ rest, gMet l D cy alM d kM (tW r alM cy rest 45 tMv) (.ref (alM 0) :: as) (fun v2 w2 => v2 = v ∧ ∃ r2, w2 = tW r2 alM cy rest 45 tMv ∧ P (eB r1 r2))) ∧ ∀ v r1, Mid v r1 → kdV kX v
theorem OpOk.mono {l : Launch} {D : va_G} {cy : Nat → ClassId} {alX alM : Nat → Nat} {d : Nat} {r : sE} {kX kM : Nat} {as : List Value} {P P2 : sE → Prop} (h : OpOk l D cy alX alM d r kX kM as P) (hP : ∀ r, P r → P2 r) : OpOk l D cy alX alM d r kX kM as P2 := by
  obtain ⟨Mid, h1, h2, h3⟩ := h
  refine ⟨Mid, h1, fun v r1 hm rest => (h2 v r1 hm rest).mono (fun v2 w2 q => ?_), h3⟩
  obtain ⟨q1, r2, q2, q4⟩ := q
  exact ⟨q1, r2, q2, hP _ q4⟩
/-- a template is in order: its cells, and against the variables -/
def tOk (b n : Nat) (t tv : Nat → sC) : Prop := ∀ i, i < n → ((t i).1 ≤ 6 ∧ fitC (b + i) (t i) (t i) = true) ∧ spC (b + i) (t i) (tv i) = true
theorem tX_ok {c : Nat} (hc : c < 18) : tOk 0 68 (tX c) tXv := fun i hi => ⟨tX_can c hc i hi, tX_sp c hc i hi⟩
theorem tM_ok {c : Nat} (hc : c < 18) : tOk 69 45 (tM c) tMv := fun i hi => ⟨tM_can c hc i hi, tM_sp c hc i hi⟩
theorem tXv_sp : ∀ i, i < 68 → spC (0 + i) (tXv i) (tXv i) = true := by decide +kernel
theorem tMv_sp : ∀ i, i < 45 → spC (69 + i) (tMv i) (tMv i) = true := by decide +kernel
theorem tXv_ok : tOk 0 68 tXv tXv := fun i hi => ⟨tXv_can i hi, tXv_sp i hi⟩
theorem tMv_ok : tOk 69 45 tMv tMv := fun i hi => ⟨tMv_can i hi, tMv_sp i hi⟩
def ncV (v : sV) : Bool := match v with
  | .inl (.natCast _) => false
  | .inr (.inl (.natCast _)) => false
  | _ => true
theorem tXv_nc : ∀ i, i < 68 → lAll ncV (tXv i).2.2 = true := by decide +kernel
theorem tMv_nc : ∀ i, i < 45 → lAll ncV (tMv i).2.2 = true := by decide +kernel
theorem cC_nc {b n : Nat} {t : Nat → sC} {r : sE} (h : ∀ i, i < n → lAll ncV (t i).2.2 = true) : cC b n t r := fun i hi j k => by
  constructor
  · intro hx
    have := lAll_ok (h i hi) _ (List.mem_of_getElem? hx)
    cases this
  · intro hx
    have := lAll_ok (h i hi) _ (List.mem_of_getElem? hx)
    cases this
theorem cC_X (r : sE) : cC 0 68 tXv r := cC_nc tXv_nc
theorem cC_M (r : sE) : cC 69 45 tMv r := cC_nc tMv_nc
/-- the class' run, then the model's -/
noncomputable def jRun (fuel d : Nat) (t t2 s s2 : Nat → sC) (kX kM : Nat) (KX KM : Nat → Bool) (oX oM : List sOv) (pa : List sK) (as : List sV) (ck : sM → sM → List sK → sM → sM → Bool) : Bool :=
  sBeg (nat_lit 0) (nat_lit 68) t KX oX (fun x0 => sRun fuel d kX pa x0 (.inr (.inr (some (nat_lit 0))) :: as) (fun v pa x => Bool.and (fitM (nat_lit 0) (nat_lit 68) t2 KX x)
    (Bool.and (kdS kX v) (sBeg (nat_lit 69) (nat_lit 45) s KM oM (fun m0 => sRun fuel d kM pa m0 (.inr (.inr (some (nat_lit 0))) :: as) (fun v2 pa m => Bool.and (fitM (nat_lit 69) (nat_lit 45) s2 KM m) (Bool.and (eqO v2 v) (ck x0 m0 pa x m))))))))
theorem jOk (l : Launch) {D : va_G} {cy : Nat → ClassId} {alX alM : Nat → Nat} {r : sE} {fuel d kX kM : Nat} {t t2 s s2 : Nat → sC} {KX KM : Nat → Bool} {oX oM : List sOv} {pa : List sK} {as : List sV} {ck : sM → sM → List sK → sM → sM → Bool} {vs : List Value} {P : sE → Prop} (ht : tOk 0 68 t tXv) (ht2 : tOk 0 68 t2 tXv) (hs : tOk 69 45 s tMv) (hs2 : tOk 69 45 s2 tMv) (hct : cC 0 68 t r) (hcs : cC 69 45 s r) (hp : sPa r pa)
    (hX : ∀ i, i < 68 → KX i = false → t2 i = t i) (hM : ∀ i, i < 45 → KM i = false → s2 i = s i)
    (hoX : ∀ q ∈ oX, r.1 (4096 * (0 + q.1) + q.2.1) = sI r q.2.2) (hoM : ∀ q ∈ oM, r.1 (4096 * (69 + q.1) + q.2.1) = sI r q.2.2)
    (haX : as.map (sVal r alX) = vs) (haM : as.map (sVal r alM) = vs)
    (h : jRun fuel d t t2 s s2 kX kM KX KM oX oM pa as ck = true)
    (hP : ∀ (x0 m0 : sM) (pa : List sK) (x m : sM), ovP r alX 68 t KX x0 → ovP r alM 45 s KM m0 → ck x0 m0 pa x m = true → sPa r pa → fitM 0 68 t2 KX x = true → fitM 69 45 s2 KM m = true → cC 0 68 t2 (eOf 0 r x) → cC 69 45 s2 (eOf 69 r m) → P (eJ r x m)) : OpOk l D cy alX alM d r kX kM vs P := by
  refine ⟨fun v r1 => ∃ (x0 : sM) (v0 : Option sV) (pa0 : List sK) (x : sM), v = v0.map (sVal r alX) ∧ kdS kX v0 = true ∧ r1 = eOf 0 r x ∧ fitM 0 68 t2 KX x = true ∧ ovP r alX 68 t KX x0 ∧ sPa r pa0 ∧ sBeg (nat_lit 69) (nat_lit 45) s KM oM (fun m0 => sRun fuel d kM pa0 m0 (.inr (.inr (some (nat_lit 0))) :: as) (fun v2 pa m => Bool.and (fitM (nat_lit 69) (nat_lit 45) s2 KM m) (Bool.and (eqO v2 v0) (ck x0 m0 pa x m)))) = true, fun rest => ?_, fun v r1 hm rest => ?_, fun v r1 hm => by
    obtain ⟨x0, v0, pa0, x, rfl, hnr, -⟩ := hm
    exact kdS_ok hnr⟩
  · have key := gT_run (al := alX) (cy := cy) (rest := rest) (D := D) (G := fun v w => ∃ r1, (∃ (x0 : sM) (v0 : Option sV) (pa0 : List sK) (x : sM), v = v0.map (sVal r alX) ∧ kdS kX v0 = true ∧ r1 = eOf 0 r x ∧ fitM 0 68 t2 KX x = true ∧ ovP r alX 68 t KX x0 ∧ sPa r pa0 ∧ sBeg (nat_lit 69) (nat_lit 45) s KM oM (fun m0 => sRun fuel d kM pa0 m0 (.inr (.inr (some (nat_lit 0))) :: as) (fun v2 pa m => Bool.and (fitM (nat_lit 69) (nat_lit 45) s2 KM m) (Bool.and (eqO v2 v0) (ck x0 m0 pa x m)))) = true) ∧ w = tW r1 alX cy rest 68 tXv) l (fun i hi => (ht i hi).1) hX hp hoX h ?_
    · rw [List.map_cons, haX, cC_w (fun i hi => (ht i hi).2) hct] at key
      exact key
    · intro x0 v pa1 x h1 h2 h3 h4
      rw [Bool.and_eq_true] at h2
      obtain ⟨hnr, h2⟩ := h2
      exact ⟨eOf 0 r x, ⟨x0, v, pa1, x, rfl, hnr, rfl, h4, h1, h3, h2⟩, cC_w (fun i hi => (ht2 i hi).2) (cC_fit h4 hX hct (fun i hi => (ht i hi).1))⟩
  · obtain ⟨x0, v0, pa0, x, rfl, hnr, rfl, hl, h1, h3, h2⟩ := hm
    have key := gT_run (al := alM) (cy := cy) (rest := rest) (D := D) (G := fun v2 w2 => v2 = v0.map (sVal r alX) ∧ ∃ r2, w2 = tW r2 alM cy rest 45 tMv ∧ P (eB (eOf 0 r x) r2)) l (fun i hi => (hs i hi).1) hM h3 hoM h2 ?_
    · rw [List.map_cons, haM, cC_w (fun i hi => (hs i hi).2) hcs] at key
      exact key
    · intro m0 v2 pa1 m k1 k2 k3 k4
      rw [Bool.and_eq_true] at k2
      have e := eqO_ok k2.1
      subst e
      have hcm := cC_fit k4 hM hcs (fun i hi => (hs i hi).1)
      exact ⟨kdS_ref hnr, eOf 69 r m, cC_w (fun i hi => (hs2 i hi).2) hcm, hP x0 m0 pa1 x m h1 k1 k2.2 k3 hl k4 (cC_fit hl hX hct (fun i hi => (ht i hi).1)) hcm⟩
