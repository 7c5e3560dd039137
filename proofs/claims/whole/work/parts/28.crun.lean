/-! 28: before and behind a call; the templates are in order -/
theorem Met.mono {l : Launch} {y : MethodName} {ws : List Cond} {rm : Room} {Pc Pc2 : Array Value → State → Prop} {Qc Qc2 : Array Value → State → Outcome → State → Prop} {mc ms : Nat} {free free2 : Addr → Prop} (h : Met l y ws rm Pc Qc mc ms free) (hP : ∀ a s, Pc2 a s → Pc a s) (hQ : ∀ a s o t, Pc2 a s → Qc a s o t → Qc2 a s o t) (hf : ∀ q, free q → free2 q) : Met l y ws rm Pc2 Qc2 mc ms free2 := by
  intro p e h1 h2 h3 s m args below h4 h5 h6 h7
  obtain ⟨n, o, a1, a2, a3, a4, L, a5, a6⟩ := h p e h1 h2 h3 s m args below h4 h5 (hP _ _ h6) h7
  exact ⟨n, o, a1, a2, a3, hQ _ _ _ _ h6 a4, L, a5, fun q hq => hf _ (a6 q hq)⟩
/-- before a call: the world w lies on the heap -/
def cPre (D : va_G) (cy : Nat → ClassId) (al : Nat → Nat) (w : va_W) (sz : Nat) (U : State) : Prop := U.heap.size = sz ∧ va_P D vwCl w U.heap ∧ va_K D vwCl (sT cy) U ∧ va_D (fun _ => True) w ∧ sSt al (va_A w sz) U U.heap ∧ sNw U
/-- the templates are in order -/
theorem tX_can : ∀ c, c < 18 → ∀ i, i < 69 → (tX c i).1 ≤ 6 ∧ fitC (0 + i) (tX c i) (tX c i) = true := by decide +kernel
theorem tM_can : ∀ c, c < 18 → ∀ i, i < 45 → (tM c i).1 ≤ 6 ∧ fitC (69 + i) (tM c i) (tM c i) = true := by decide +kernel
