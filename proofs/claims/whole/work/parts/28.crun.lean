/-! 28: a run as a contract over templates -/
theorem Met.mono {l : Launch} {y : MethodName} {ws : List Cond} {rm : Room} {Pc Pc2 : Array Value → State → Prop} {Qc Qc2 : Array Value → State → Outcome → State → Prop} {mc ms : Nat} {free free2 : Addr → Prop} (h : Met l y ws rm Pc Qc mc ms free) (hP : ∀ a s, Pc2 a s → Pc a s) (hQ : ∀ a s o t, Pc2 a s → Qc a s o t → Qc2 a s o t) (hf : ∀ q, free q → free2 q) : Met l y ws rm Pc2 Qc2 mc ms free2 := by
  intro p e h1 h2 h3 s m args below h4 h5 h6 h7
  obtain ⟨n, o, a1, a2, a3, a4, L, a5, a6⟩ := h p e h1 h2 h3 s m args below h4 h5 (hP _ _ h6) h7
  exact ⟨n, o, a1, a2, a3, hQ _ _ _ _ h6 a4, L, a5, fun q hq => hf _ (a6 q hq)⟩
/-- before a call: the world w lies on the heap -/
def cPre (D : va_G) (cy : Nat → ClassId) (al : Nat → Nat) (w : va_W) (sz : Nat) (U : State) : Prop := U.heap.size = sz ∧ va_P D vwCl w U.heap ∧ va_K D vwCl (sT cy) U ∧ va_D (fun _ => True) w ∧ sSt al (va_A w sz) U U.heap ∧ sNw U
/-- behind it: the answer and the environment are such as F says, the world is the template's -/
def cQc (D : va_G) (cy : Nat → ClassId) (rest : va_W) (al : Nat → Nat) (n : Nat) (A : Nat → Prop) (F : Option Value → sE → (Nat → sC) → Prop) : Array Value → State → Outcome → State → Prop := fun _ st o t => (∃ (v : Option Value) (r : sE) (tt : Nat → sC), F v r tt ∧ o = .returned v ∧ va_P D vwCl (tW r al cy rest n tt) t.heap ∧ va_K D vwCl (sT cy) t ∧ va_D A (tW r al cy rest n tt)) ∧ va_F A st t
/-- the contract of method k on a world -/
def cMet (l : Launch) (D : va_G) (cy : Nat → ClassId) (rest : va_W) (al : Nat → Nat) (n d k : Nat) (w : va_W) (as : List Value) (F : Option Value → sE → (Nat → sC) → Prop) : Prop :=
  ∀ sz : Nat, Met l (MI k).1 (Cond.code (MI k).1 (MI k).2.1 (MI k).2.2.1 (MI k).2.2.2 :: sTb) (sRm d) (va_Pc as (cPre D cy al w sz)) (cQc D cy rest al n (va_A w sz) F) 0 0 (va_A w sz)
theorem cMet.mono {l : Launch} {D : va_G} {cy : Nat → ClassId} {rest : va_W} {al : Nat → Nat} {n d k : Nat} {w : va_W} {as : List Value} {F F2 : Option Value → sE → (Nat → sC) → Prop} (h : cMet l D cy rest al n d k w as F) (hF : ∀ v r t, F v r t → F2 v r t) : cMet l D cy rest al n d k w as F2 := fun sz => (h sz).mono (fun _ _ q => q) (fun a s o t _ q => ⟨by
  obtain ⟨v, r, tt, q1, q2⟩ := q.1
  exact ⟨v, r, tt, hF _ _ _ q1, q2⟩, q.2⟩) (fun _ q => q)
/-- a run's end: the memory fits t2, and ck -/
noncomputable def kFit (n : Nat) (t2 : Nat → sC) (K : Nat → Bool) (ck : sKr) : sKr := fun v pa mem => Bool.and (ck v pa mem) (fitM n t2 K mem)
theorem cRun (l : Launch) {D : va_G} {cy : Nat → ClassId} {rest : va_W} {al : Nat → Nat} {r : sE} {n fuel d k : Nat} {pa : List sK} {t t2 : Nat → sC} {K : Nat → Bool} {as : List sV} {ck : sKr} (hp : sPa r pa) (hcan : ∀ i, i < n → (t i).1 ≤ 6 ∧ fitC i (t i) (t i) = true) (ht : ∀ i, i < n → K i = false → t2 i = t i)
    (h : sRun fuel d k pa (msk n t K) as (kFit n t2 K ck) = true) : cMet l D cy rest al n d k (tW r al cy rest n t) (as.map (sVal r al)) (fun v r2 tt => ∃ v0 pa0 mem, ck v0 pa0 mem = true ∧ sPa r pa0 ∧ v = v0.map (sVal r al) ∧ r2 = eOf r mem ∧ tt = t2 ∧ fitM n t2 K mem = true) := by
  intro sz
  have h1 := sRun_met (D := D) (cy := cy) (hid := mHid r al cy t) (rest := rest) (al := al) l hp h sz
  have e1 : sW r al cy (mHid r al cy t) rest (msk n t K) = tW r al cy rest n t := msk_w (fun i hi _ => (hcan i hi).1)
  refine h1.mono (fun a s q => ?_) (fun a s o tt _ q => ?_) (fun q hq => by rw [e1] at hq; exact hq)
  · refine ⟨q.1, ?_⟩
    unfold sPre
    rw [e1]
    exact q.2
  · obtain ⟨⟨v, pa1, mem, q1, q2, q3, q4, q5, q6⟩, q7⟩ := q
    rw [e1] at q6 q7
    have q8 : Bool.and (ck v pa1 mem) (fitM n t2 K mem) = true := q1
    rw [Bool.and_eq_true] at q8
    have e2 : sW r al cy (mHid r al cy t) rest mem = tW (eOf r mem) al cy rest n t2 := fit_w q8.2 (fun i hi hK => ⟨ht i hi hK, (hcan i hi).2⟩)
    rw [e2] at q4 q6
    exact ⟨⟨_, eOf r mem, t2, ⟨v, pa1, mem, q8.1, q2, rfl, rfl, rfl, q8.2⟩, q3, q4, q5, q6⟩, q7⟩
/-- the templates are in order -/
theorem tX_can : ∀ c, c < 18 → ∀ i, i < 69 → (tX c i).1 ≤ 6 ∧ fitC i (tX c i) (tX c i) = true := by decide +kernel
theorem tM_can : ∀ c, c < 18 → ∀ i, i < 45 → (tM c i).1 ≤ 6 ∧ fitC i (tM c i) (tM c i) = true := by decide +kernel
