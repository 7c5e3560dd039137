/-! 98x: read: the class, byte by byte (by wip/whole/mk98x.py) -/
noncomputable def leN (n : Nat) (s : List Nat) : Bool := lAll (fun a => Nat.ble a n) s
noncomputable def tkG (n : Nat) (s : List Nat) (v : Nat) : Bool := sBeg (nat_lit 0) (nat_lit 68) tXv (memB [(nat_lit 49)]) [((nat_lit 49), (nat_lit 5), (.natCast n)), ((nat_lit 49), (nat_lit 7), (.natCast (codeO (txC s)))), ((nat_lit 49), (nat_lit 9), (.natCast (mkC s))), ((nat_lit 49), (nat_lit 10), (.natCast (hdC s))), ((nat_lit 49), (nat_lit 11), (.natCast (laC s)))] (fun m0 => sRun (nat_lit 3000) (nat_lit 4) (nat_lit 37) [] m0 [.inr (.inr (some (nat_lit 49))), .inl (.natCast v)] (fun v9 _ m => Bool.and (sKC (cRg [((nat_lit 200711), (nat_lit 200715))]) (nat_lit 0) (nat_lit 68) tXv (memB [(nat_lit 49)]) m0 m) (Bool.and (eqO v9 (some (.inl (.natCast (nat_lit 1))))) (Bool.and (isE m (nat_lit 49) (nat_lit 7) (.natCast (codeO (txC (s ++ [v]))))) (Bool.and (isE m (nat_lit 49) (nat_lit 8) (.pow (.mul (.var (nat_lit 200712)) (.natCast (nat_lit 1))) (nat_lit 0))) (Bool.and (isE m (nat_lit 49) (nat_lit 9) (.natCast (mkC (s ++ [v])))) (Bool.and (isE m (nat_lit 49) (nat_lit 10) (.natCast (hdC (s ++ [v])))) (isE m (nat_lit 49) (nat_lit 11) (.natCast v)))))))))
noncomputable def tkA (n : Nat) : Bool := lAll (fun s => Bool.or (Bool.not (leN n s)) (allL n (fun i => Bool.or (memB s (Nat.succ i)) (tkG n s (Nat.succ i))))) SQ
theorem q_tkG1 : tkA (nat_lit 1) = true := by decide +kernel
theorem q_tkG2 : tkA (nat_lit 2) = true := by decide +kernel
theorem q_tkG3 : tkA (nat_lit 3) = true := by decide +kernel
theorem q_tkG4 : tkA (nat_lit 4) = true := by decide +kernel
theorem q_tkG5 : tkA (nat_lit 5) = true := by decide +kernel
noncomputable def tkV (n v : Nat) : Bool := sBeg (nat_lit 0) (nat_lit 68) tXv (memB [(nat_lit 49)]) [((nat_lit 49), (nat_lit 5), (.natCast n))] (fun m0 => sRun (nat_lit 3000) (nat_lit 4) (nat_lit 37) [] m0 [.inr (.inr (some (nat_lit 49))), .inl (.natCast v)] (fun v9 _ m => Bool.and (sKC (cRg [((nat_lit 200712), (nat_lit 200712))]) (nat_lit 0) (nat_lit 68) tXv (memB [(nat_lit 49)]) m0 m) (Bool.and (eqO v9 (some (.inl (.natCast (nat_lit 0))))) (isE m (nat_lit 49) (nat_lit 8) (.pow (.mul (.var (nat_lit 200712)) (.natCast (nat_lit 1))) (nat_lit 0))))))
theorem q_tkV : allL 6 (fun n => allL 6 (fun v => Bool.or (Nat.ble v n) (tkV n v))) = true := by decide +kernel
noncomputable def tkS (n : Nat) (s : List Nat) (v : Nat) : Bool := sBeg (nat_lit 0) (nat_lit 68) tXv (memB [(nat_lit 49)]) [((nat_lit 49), (nat_lit 5), (.natCast n)), ((nat_lit 49), (nat_lit 9), (.natCast (mkC s)))] (fun m0 => sRun (nat_lit 3000) (nat_lit 4) (nat_lit 37) [] m0 [.inr (.inr (some (nat_lit 49))), .inl (.natCast v)] (fun v9 _ m => Bool.and (sKC (cRg [((nat_lit 200712), (nat_lit 200712))]) (nat_lit 0) (nat_lit 68) tXv (memB [(nat_lit 49)]) m0 m) (Bool.and (eqO v9 (some (.inl (.natCast (nat_lit 0))))) (isE m (nat_lit 49) (nat_lit 8) (.pow (.mul (.var (nat_lit 200712)) (.natCast (nat_lit 1))) (nat_lit 0))))))
noncomputable def tkB (n : Nat) : Bool := lAll (fun s => Bool.or (Bool.not (leN n s)) (allL n (fun i => Bool.or (Bool.not (memB s (Nat.succ i))) (tkS n s (Nat.succ i))))) SQ
theorem q_tkB1 : tkB (nat_lit 1) = true := by decide +kernel
theorem q_tkB2 : tkB (nat_lit 2) = true := by decide +kernel
theorem q_tkB3 : tkB (nat_lit 3) = true := by decide +kernel
theorem q_tkB4 : tkB (nat_lit 4) = true := by decide +kernel
theorem q_tkB5 : tkB (nat_lit 5) = true := by decide +kernel
theorem leN_ok {n : Nat} {s : List Nat} (h : ∀ a ∈ s, a ≤ n) : leN n s = true := lAll_mk (fun a ha => Nat.ble_eq_true_of_le (h a ha))
theorem tk_n {P : Nat → Prop} {n : Nat} (hn : 1 ≤ n) (hn5 : n ≤ 5) (h1 : P 1) (h2 : P 2) (h3 : P 3) (h4 : P 4) (h5 : P 5) : P n := by
  rcases (show n = 1 ∨ n = 2 ∨ n = 3 ∨ n = 4 ∨ n = 5 by omega) with rfl | rfl | rfl | rfl | rfl <;> assumption
/-- the cycle so far -/
def XC (n : Nat) (r : sE) (s : List Nat) (f : Nat) : Prop := (s ∈ SQ ∧ ∀ a ∈ s, a ≤ n) ∧ r.1 (xP 49 7) = Int32.ofNat (ocode (txC s)) ∧ r.1 (xP 49 8) = Int32.ofNat f ∧ r.1 (xP 49 9) = Int32.ofNat (mkC s) ∧ r.1 (xP 49 10) = Int32.ofNat (hdC s) ∧ r.1 (xP 49 11) = Int32.ofNat (laC s)
theorem sI_add1 {r : sE} {u f : Nat} (h : r.1 u = Int32.ofNat f) (hu : u < 819290) {vs : List Int32} : sI (uM r vs) (.pow (.mul (.var u) (.natCast (nat_lit 1))) (nat_lit 0)) = Int32.ofNat (f + 1) := by
  show (sD _ _).1 = _
  rw [sD_b]
  show sI _ (.var u) + sI _ (.natCast 1) = _
  rw [uMv hu, sI_c, h, ← Int32.ofNat_add]
section RX
variable {D : va_G} {cy : Nat → ClassId} {al : Nat → Nat} {rest : va_W}
theorem vI9_ok {r : sE} {k : Nat} {v : Option sV} (h : eqO v (some (.inl (.natCast k))) = true) : v.map (sVal r al) = some (.int (Int32.ofNat k)) := by
  rw [eqO_ok h]
  show some (Value.int (sI _ _)) = _
  rw [sI_c]
theorem c_takeG (l : Launch) {r : sE} {n v f d : Nat} {s : List Nat} (hd : 4 ≤ d) (hn : 1 ≤ n) (hn5 : n ≤ 5) (h1 : 1 ≤ v) (hv : v ≤ n) (hvs : v ∉ s) (h5 : r.1 (xP 49 5) = Int32.ofNat n) (hC : XC n r s f) : gMet l D cy al d 37 (tW r al cy rest 68 tXv) [.ref (al 49), .int (Int32.ofNat v)] (fun x w => x = some (.int (Int32.ofNat 1)) ∧ ∃ r1, kpC (cRg [(200711, 200715)]) 0 68 tXv r r1 ∧ XC n r1 (s ++ [v]) (f + 1) ∧ w = tW r1 al cy rest 68 tXv) := by
  refine gMet_up hd ?_
  obtain ⟨⟨hs, hsn⟩, c7, c8, c9, c10, c11⟩ := hC
  have hq : tkG n s v = true := by
    have h := lAll_ok (tk_n (P := fun n => tkA n = true) hn hn5 q_tkG1 q_tkG2 q_tkG3 q_tkG4 q_tkG5) s hs
    rw [leN_ok hsn] at h
    have h2 := allL_ok (show allL n (fun i => Bool.or (memB s (Nat.succ i)) (tkG n s (Nat.succ i))) = true from h) (v - 1) (by omega)
    rw [show Nat.succ (v - 1) = v by omega, Bool.or_eq_true] at h2
    rcases h2 with h2 | h2
    · exact absurd (memB_ok.mp h2) hvs
    · exact h2
  obtain ⟨s1, s2, s3, -⟩ := sq_in hs h1 (by omega) hvs
  have hsn2 : ∀ a ∈ s ++ [v], a ≤ n := fun a ha => by
    rcases List.mem_append.mp ha with ha | ha
    · exact hsn a ha
    · rw [List.mem_singleton.mp ha]; exact hv
  have hcd : codeO (txC s) = ocode (txC s) := codeO_eq (ordN_in (sq_ord hn hn5 hs hsn))
  have hcd2 : codeO (txC (s ++ [v])) = ocode (txC (s ++ [v])) := codeO_eq (ordN_in (sq_ord hn hn5 s1 hsn2))
  have g := c_runU l (D := D) (al := al) (cy := cy) (rest := rest) (r := r) (vs := []) (G := fun x w => x = some (.int (Int32.ofNat 1)) ∧ ∃ r1, kpC (cRg [(200711, 200715)]) 0 68 tXv r r1 ∧ XC n r1 (s ++ [v]) (f + 1) ∧ w = tW r1 al cy rest 68 tXv) (by omega) tXv_ok cC_X sPa_nil (oX_cons (uMc (by decide) h5) (oX_cons (uMc (by decide) (by rw [hcd]; exact c7)) (oX_cons (uMc (by decide) c9) (oX_cons (uMc (by decide) c10) (oX_cons (uMc (by decide) c11) oX_nil))))) hq (fun m0 x pa m hk1 hp hkp => ?_)
  · simp only [List.map_cons, List.map_nil, sVal, sI_c] at g
    exact g
  simp only [Bool.and_eq_true] at hk1
  obtain ⟨k1, k2, k3, k4, k5, k6⟩ := hk1
  refine ⟨vI9_ok k1, _, hkp, ⟨⟨s1, hsn2⟩, ?_, ?_, eU_c (by first | decide | omega) k4, eU_c (by first | decide | omega) k5, ?_⟩, rfl⟩
  · rw [← hcd2]
    exact eU_c (by first | decide | omega) k2
  · exact (isE_ok (b := 0) (by first | decide | omega) k3).trans (sI_add1 c8 (by decide))
  · rw [s2]
    exact eU_c (by first | decide | omega) k6
theorem c_takeB (l : Launch) {r : sE} {n v f d : Nat} {s : List Nat} (hd : 4 ≤ d) (hn : 1 ≤ n) (hn5 : n ≤ 5) (h1 : 1 ≤ v) (hv5 : v ≤ 5) (hv : n < v ∨ v ∈ s) (h5 : r.1 (xP 49 5) = Int32.ofNat n) (hC : XC n r s f) : gMet l D cy al d 37 (tW r al cy rest 68 tXv) [.ref (al 49), .int (Int32.ofNat v)] (fun x w => x = some (.int (Int32.ofNat 0)) ∧ ∃ r1, kpC (cRg [(200712, 200712)]) 0 68 tXv r r1 ∧ r1.1 (xP 49 8) = Int32.ofNat (f + 1) ∧ w = tW r1 al cy rest 68 tXv) := by
  refine gMet_up hd ?_
  obtain ⟨⟨hs, hsn⟩, c7, c8, c9, c10, c11⟩ := hC
  by_cases hvn : v ≤ n
  · have hvs : v ∈ s := by
      rcases hv with hv | hv
      · omega
      · exact hv
    have hq : tkS n s v = true := by
      have h := lAll_ok (tk_n (P := fun n => tkB n = true) hn hn5 q_tkB1 q_tkB2 q_tkB3 q_tkB4 q_tkB5) s hs
      rw [leN_ok hsn] at h
      have h2 := allL_ok (show allL n (fun i => Bool.or (Bool.not (memB s (Nat.succ i))) (tkS n s (Nat.succ i))) = true from h) (v - 1) (by omega)
      rw [show Nat.succ (v - 1) = v by omega, memB_ok.mpr hvs, Bool.or_eq_true] at h2
      rcases h2 with h2 | h2
      · cases h2
      · exact h2
    have g := c_runU l (D := D) (al := al) (cy := cy) (rest := rest) (r := r) (vs := []) (G := (fun x w => x = some (.int (Int32.ofNat 0)) ∧ ∃ r1, kpC (cRg [(200712, 200712)]) 0 68 tXv r r1 ∧ r1.1 (xP 49 8) = Int32.ofNat (f + 1) ∧ w = tW r1 al cy rest 68 tXv)) (by omega) tXv_ok cC_X sPa_nil (oX_cons (uMc (by decide) h5) (oX_cons (uMc (by decide) c9) oX_nil)) hq (fun m0 x pa m hk1 hp hkp => ?_)
    · simp only [List.map_cons, List.map_nil, sVal, sI_c] at g
      exact g
    rw [Bool.and_eq_true] at hk1
    exact ⟨vI9_ok hk1.1, _, hkp, (isE_ok (b := 0) (by first | decide | omega) hk1.2).trans (sI_add1 c8 (by decide)), rfl⟩
  · have hq : tkV n v = true := by
      have h := allL_ok (allL_ok q_tkV n (by omega)) v (by omega)
      rw [Bool.or_eq_true] at h
      rcases h with h | h
      · exact absurd (Nat.le_of_ble_eq_true h) hvn
      · exact h
    have g := c_runU l (D := D) (al := al) (cy := cy) (rest := rest) (r := r) (vs := []) (G := (fun x w => x = some (.int (Int32.ofNat 0)) ∧ ∃ r1, kpC (cRg [(200712, 200712)]) 0 68 tXv r r1 ∧ r1.1 (xP 49 8) = Int32.ofNat (f + 1) ∧ w = tW r1 al cy rest 68 tXv)) (by omega) tXv_ok cC_X sPa_nil (oX_cons (uMc (by decide) h5) oX_nil) hq (fun m0 x pa m hk1 hp hkp => ?_)
    · simp only [List.map_cons, List.map_nil, sVal, sI_c] at g
      exact g
    rw [Bool.and_eq_true] at hk1
    exact ⟨vI9_ok hk1.1, _, hkp, (isE_ok (b := 0) (by first | decide | omega) hk1.2).trans (sI_add1 c8 (by decide)), rfl⟩
/-- the state between two bytes -/
def cbT : txT → Nat
  | [] => 0
  | x :: O => cbT O + (if x.1 = 2 then 1 else 0)
def noT (O : txT) : Prop := match O with
  | [] => True
  | x :: _ => x.1 ≠ 3
theorem txE_cb {M : List (List Nat)} : ∀ {O : txT} {o : List Nat}, cbT (txE O M o).1 = cbT O ∧ noT (txE O M o).1
  | [], o => ⟨rfl, trivial⟩
  | x :: O, o => by
    by_cases h : x.1 = 3
    · obtain ⟨t, p⟩ := x
      obtain rfl : t = 3 := h
      rw [txE_3]
      exact ⟨txE_cb.1.trans rfl, txE_cb.2⟩
    · rw [txE_no h]
      exact ⟨rfl, h⟩
def CHB : List (Nat × Nat) := [(200707, 229379)]
def inB : List (Nat × Nat) → Prop
  | [] => True
  | (a, b) :: l => (200707 ≤ a ∧ b ≤ 229379) ∧ inB l
theorem inB_ok : ∀ {l : List (Nat × Nat)}, inB l → ∀ x ∈ l, 200707 ≤ x.1 ∧ x.2 ≤ 229379
  | [], _, x, hx => nomatch hx
  | (a, b) :: l, h, x, hx => by
    rcases List.mem_cons.mp hx with rfl | hx
    · exact h.1
    · exact inB_ok h.2 x hx
theorem neQ {a b : Nat} {P : Prop} (h : Nat.beq a b = false) (q : a = b) : P := absurd q (Nat.ne_of_beq_eq_false h)
theorem CHB_w {l : List (Nat × Nat)} {r r1 : sE} (h : kpC (cRg l) 0 68 tXv r r1) (hl : inB l) : kpC (cRg CHB) 0 68 tXv r r1 := chR_w (fun x hx => ⟨(200707, 229379), by simp [CHB], (inB_ok hl x hx).1, (inB_ok hl x hx).2⟩) h
def whyP (u : Nat) : Prop := u = 204800 ∨ (208896 ≤ u ∧ u < 208977) ∨ (212992 ≤ u ∧ u < 213073)
theorem vX_w {u : Nat} (h : whyP u) : isV 0 68 tXv u = true := by
  rcases h with rfl | h | h
  · exact vX_r 50 (by simp) 0 (by omega) (Or.inl rfl)
  · have := vX_r 51 (by simp) (u - 208896) (by omega) (Or.inr (Or.inl (by omega)))
    rw [show xP 51 (u - 208896) = u by unfold xP; omega] at this
    exact this
  · have := vX_r 52 (by simp) (u - 212992) (by omega) (Or.inr (Or.inl (by omega)))
    rw [show xP 52 (u - 212992) = u by unfold xP; omega] at this
    exact this
def XS (n p : Nat) (r0 r : sE) (σ : txS) : Prop := (r.1 (xP 49 4) = Int32.ofNat σ.1 ∧ r.1 (xP 49 5) = Int32.ofNat n ∧ σ.1 < 4) ∧ (XO r σ.2.1 ∧ okT σ.2.1 ∧ σ.2.1.length ≤ p ∧ cbT σ.2.1 + 1 = σ.2.2.1.length ∧ (σ.1 = 3 → noT σ.2.1)) ∧ XM n r σ.2.2.1 ∧ (σ.1 = 2 → XC n r σ.2.2.2.1 σ.2.2.2.2.1 ∧ σ.2.2.2.2.1 ≤ p) ∧ (XW r σ.2.2.2.2.2 ∧ (∀ T, σ.2.2.2.2.2 = some T → T.length ≤ 81) ∧ (σ.2.2.2.2.2 = none → ∀ u, whyP u → r.1 u = r0.1 u)) ∧ kpC (cRg CHB) 0 68 tXv r0 r
/-- what a byte makes of the state -/
def XR (n p : Nat) (r0 : sE) (σ : txS) (b : Nat) (v : Option Value) (r1 : sE) : Prop := match txD n σ b p with
  | some σ1 => v = some (.int (Int32.ofNat 1)) ∧ XS n (p + 1) r0 r1 σ1
  | none => v = some (.int (Int32.ofNat 0)) ∧ XS n p r0 r1 σ
noncomputable def LGo9 : sL := [some (.inr (.inr (some (nat_lit 49)))), some (.inl (.var (nat_lit 819290))), some (.inl (.var (nat_lit 819291)))]
theorem q_gwE : sEnt [.inr (.inr (some (nat_lit 49))), .inl (.var (nat_lit 819290)), .inl (.var (nat_lit 819291))] (PG (nat_lit 31)).2.1 (fun L => eqL eqO L LGo9) = true := by decide +kernel
theorem q_gw0 : sBeg (nat_lit 0) (nat_lit 68) tXv (memB [(nat_lit 49)]) [((nat_lit 49), (nat_lit 4), (.natCast (nat_lit 0)))] (fun m0 => sx PG (nat_lit 500) (nat_lit 20) (PG (nat_lit 31)) (fun pc => memB [(nat_lit 35)] pc) (fun pc L st _ m => Bool.and (eqL eqC m m0) (kAt (nat_lit 35) LGo9 [.inl (.var (nat_lit 819291)), .inl (.var (nat_lit 819290)), .inr (.inr (some (nat_lit 49)))] pc L st)) (fun v _ m => Bool.and (eqL eqC m m0) false) (nat_lit 0) LGo9 [] [] m0) = true := by decide +kernel
theorem q_gw1 : sBeg (nat_lit 0) (nat_lit 68) tXv (memB [(nat_lit 49)]) [((nat_lit 49), (nat_lit 4), (.natCast (nat_lit 1)))] (fun m0 => sx PG (nat_lit 500) (nat_lit 20) (PG (nat_lit 31)) (fun pc => memB [(nat_lit 42)] pc) (fun pc L st _ m => Bool.and (eqL eqC m m0) (kAt (nat_lit 42) LGo9 [.inl (.var (nat_lit 819291)), .inl (.var (nat_lit 819290)), .inr (.inr (some (nat_lit 49)))] pc L st)) (fun v _ m => Bool.and (eqL eqC m m0) false) (nat_lit 0) LGo9 [] [] m0) = true := by decide +kernel
theorem q_gw2 : sBeg (nat_lit 0) (nat_lit 68) tXv (memB [(nat_lit 49)]) [((nat_lit 49), (nat_lit 4), (.natCast (nat_lit 2)))] (fun m0 => sx PG (nat_lit 500) (nat_lit 20) (PG (nat_lit 31)) (fun pc => memB [(nat_lit 49)] pc) (fun pc L st _ m => Bool.and (eqL eqC m m0) (kAt (nat_lit 49) LGo9 [.inl (.var (nat_lit 819291)), .inl (.var (nat_lit 819290)), .inr (.inr (some (nat_lit 49)))] pc L st)) (fun v _ m => Bool.and (eqL eqC m m0) false) (nat_lit 0) LGo9 [] [] m0) = true := by decide +kernel
theorem q_gw3 : sBeg (nat_lit 0) (nat_lit 68) tXv (memB [(nat_lit 49)]) [((nat_lit 49), (nat_lit 4), (.natCast (nat_lit 3)))] (fun m0 => sx PG (nat_lit 500) (nat_lit 20) (PG (nat_lit 31)) (fun pc => memB [(nat_lit 55)] pc) (fun pc L st _ m => Bool.and (eqL eqC m m0) (kAt (nat_lit 55) LGo9 [.inl (.var (nat_lit 819290)), .inr (.inr (some (nat_lit 49)))] pc L st)) (fun v _ m => Bool.and (eqL eqC m m0) false) (nat_lit 0) LGo9 [] [] m0) = true := by decide +kernel
theorem q_gwR0 : allL 2 (fun x => sx PG (nat_lit 10) (nat_lit 20) (PG (nat_lit 31)) (fun _ => false) (fun _ _ _ _ _ => false) (fun v0 _ m => Bool.and (eqL eqC m []) (eqO v0 (some (.inl (.natCast x))))) (nat_lit 38) LGo9 [.inl (.natCast x)] [] []) = true := by decide +kernel
theorem q_gwR1 : allL 2 (fun x => sx PG (nat_lit 10) (nat_lit 20) (PG (nat_lit 31)) (fun _ => false) (fun _ _ _ _ _ => false) (fun v0 _ m => Bool.and (eqL eqC m []) (eqO v0 (some (.inl (.natCast x))))) (nat_lit 45) LGo9 [.inl (.natCast x)] [] []) = true := by decide +kernel
theorem q_gwR2 : allL 2 (fun x => sx PG (nat_lit 10) (nat_lit 20) (PG (nat_lit 31)) (fun _ => false) (fun _ _ _ _ _ => false) (fun v0 _ m => Bool.and (eqL eqC m []) (eqO v0 (some (.inl (.natCast x))))) (nat_lit 52) LGo9 [.inl (.natCast x)] [] []) = true := by decide +kernel
theorem q_gwR3 : allL 2 (fun x => sx PG (nat_lit 10) (nat_lit 20) (PG (nat_lit 31)) (fun _ => false) (fun _ _ _ _ _ => false) (fun v0 _ m => Bool.and (eqL eqC m []) (eqO v0 (some (.inl (.natCast x))))) (nat_lit 58) LGo9 [.inl (.natCast x)] [] []) = true := by decide +kernel
theorem LGo9_eq {r : sE} {a b : Int32} {vs : List Int32} : LGo9.map (Option.map (sVal (uM r (a :: b :: vs)) al)) = [some (.ref (al 49)), some (.int a), some (.int b)] := by
  simp only [LGo9, List.map_cons, List.map_nil, Option.map_some, sVal, uM0, uM1]
def isB (v : Option Value) : Prop := v = some (.int (Int32.ofNat 0)) ∨ v = some (.int (Int32.ofNat 1))
theorem isB_ok {v : Option Value} (h : isB v) : ∃ x, x < 2 ∧ v = some (.int (Int32.ofNat x)) := h.elim (fun h => ⟨0, by omega, h⟩) (fun h => ⟨1, by omega, h⟩)
theorem vI_ok {r : sE} {k : Nat} {v : Option sV} (h : eqO v (some (.inl (.natCast k))) = true) : v.map (sVal r al) = some (.int (Int32.ofNat k)) := by
  rw [eqO_ok h]
  show some (Value.int (sI _ _)) = _
  rw [sI_c]
theorem c_with (l : Launch) {r : sE} {a b : Int32} {aw : Nat} {G : Option Value → va_W → Prop} (h4 : r.1 (xP 49 4) = Int32.ofNat aw) (haw : aw < 4)
    (hM : gMet l D cy al 19 (32 + 2 * aw) (tW r al cy rest 68 tXv) (.ref (al 49) :: .int a :: if aw = 3 then [] else [.int b]) (fun v w => isB v ∧ G v w)) : gMet l D cy al 20 31 (tW r al cy rest 68 tXv) [.ref (al 49), .int a, .int b] G := by
  have key := gMet_of (l := l) (D := D) (cy := cy) (al := al) (d := 20) (k := 31) (w := tW r al cy rest 68 tXv) (r := uM r [a, b]) (G := G) q_gwE (fun At hFC => ?_)
  · simp only [List.map_cons, List.map_nil, sVal, uM0, uM1] at key
    exact key
  match aw, haw with
  | 0, _ =>
    have g := g_segV hFC (r := r) (vs := [a, b]) (al := al) (cy := cy) (rest := rest) (by omega) tXv_ok cC_X sPa_nil (oX_cons (uMc (by decide) h4) oX_nil) q_gw0 (fun pc L st pa hk1 hp1 => ?_) (fun v pa hk1 => nomatch hk1)
    · exact g
    obtain ⟨rfl, rfl, rfl⟩ := kAt_ok hk1
    have es : List.map (sVal (uM r [a, b]) al) [.inl (.var (nat_lit 819291)), .inl (.var (nat_lit 819290)), .inr (.inr (some (nat_lit 49)))] = ([.ref (al 49), .int a, .int b] : List Value).reverse ++ [] := by
      simp only [List.map_cons, List.map_nil, sVal, uM0, uM1]
      rfl
    rw [es]
    refine hFC.2 35 38 32 19 _ _ _ _ _ ⟨_, _, rfl, rfl⟩ rfl (by decide) rfl (gRecv_x (j := 49) (show 49 < 68 by omega) rfl rfl) hM (fun v1 w2 h => ?_)
    obtain ⟨hx, h⟩ := h
    obtain ⟨x, hx2, rfl⟩ := isB_ok hx
    have g := g_ret (v := some (.int (Int32.ofNat x))) hFC (r := uM r [a, b]) (w := w2) (allL_ok q_gwR0 x hx2) (fun v0 h0 => vI_ok h0) h
    simp only [List.map_cons (l := []), List.map_nil, sVal, sI_c] at g
    exact g
  | 1, _ =>
    have g := g_segV hFC (r := r) (vs := [a, b]) (al := al) (cy := cy) (rest := rest) (by omega) tXv_ok cC_X sPa_nil (oX_cons (uMc (by decide) h4) oX_nil) q_gw1 (fun pc L st pa hk1 hp1 => ?_) (fun v pa hk1 => nomatch hk1)
    · exact g
    obtain ⟨rfl, rfl, rfl⟩ := kAt_ok hk1
    have es : List.map (sVal (uM r [a, b]) al) [.inl (.var (nat_lit 819291)), .inl (.var (nat_lit 819290)), .inr (.inr (some (nat_lit 49)))] = ([.ref (al 49), .int a, .int b] : List Value).reverse ++ [] := by
      simp only [List.map_cons, List.map_nil, sVal, uM0, uM1]
      rfl
    rw [es]
    refine hFC.2 42 45 34 19 _ _ _ _ _ ⟨_, _, rfl, rfl⟩ rfl (by decide) rfl (gRecv_x (j := 49) (show 49 < 68 by omega) rfl rfl) hM (fun v1 w2 h => ?_)
    obtain ⟨hx, h⟩ := h
    obtain ⟨x, hx2, rfl⟩ := isB_ok hx
    have g := g_ret (v := some (.int (Int32.ofNat x))) hFC (r := uM r [a, b]) (w := w2) (allL_ok q_gwR1 x hx2) (fun v0 h0 => vI_ok h0) h
    simp only [List.map_cons (l := []), List.map_nil, sVal, sI_c] at g
    exact g
  | 2, _ =>
    have g := g_segV hFC (r := r) (vs := [a, b]) (al := al) (cy := cy) (rest := rest) (by omega) tXv_ok cC_X sPa_nil (oX_cons (uMc (by decide) h4) oX_nil) q_gw2 (fun pc L st pa hk1 hp1 => ?_) (fun v pa hk1 => nomatch hk1)
    · exact g
    obtain ⟨rfl, rfl, rfl⟩ := kAt_ok hk1
    have es : List.map (sVal (uM r [a, b]) al) [.inl (.var (nat_lit 819291)), .inl (.var (nat_lit 819290)), .inr (.inr (some (nat_lit 49)))] = ([.ref (al 49), .int a, .int b] : List Value).reverse ++ [] := by
      simp only [List.map_cons, List.map_nil, sVal, uM0, uM1]
      rfl
    rw [es]
    refine hFC.2 49 52 36 19 _ _ _ _ _ ⟨_, _, rfl, rfl⟩ rfl (by decide) rfl (gRecv_x (j := 49) (show 49 < 68 by omega) rfl rfl) hM (fun v1 w2 h => ?_)
    obtain ⟨hx, h⟩ := h
    obtain ⟨x, hx2, rfl⟩ := isB_ok hx
    have g := g_ret (v := some (.int (Int32.ofNat x))) hFC (r := uM r [a, b]) (w := w2) (allL_ok q_gwR2 x hx2) (fun v0 h0 => vI_ok h0) h
    simp only [List.map_cons (l := []), List.map_nil, sVal, sI_c] at g
    exact g
  | 3, _ =>
    have g := g_segV hFC (r := r) (vs := [a, b]) (al := al) (cy := cy) (rest := rest) (by omega) tXv_ok cC_X sPa_nil (oX_cons (uMc (by decide) h4) oX_nil) q_gw3 (fun pc L st pa hk1 hp1 => ?_) (fun v pa hk1 => nomatch hk1)
    · exact g
    obtain ⟨rfl, rfl, rfl⟩ := kAt_ok hk1
    have es : List.map (sVal (uM r [a, b]) al) [.inl (.var (nat_lit 819290)), .inr (.inr (some (nat_lit 49)))] = ([.ref (al 49), .int a] : List Value).reverse ++ [] := by
      simp only [List.map_cons, List.map_nil, sVal, uM0]
      rfl
    rw [es]
    refine hFC.2 55 58 38 19 _ _ _ _ _ ⟨_, _, rfl, rfl⟩ rfl (by decide) rfl (gRecv_x (j := 49) (show 49 < 68 by omega) rfl rfl) hM (fun v1 w2 h => ?_)
    obtain ⟨hx, h⟩ := h
    obtain ⟨x, hx2, rfl⟩ := isB_ok hx
    have g := g_ret (v := some (.int (Int32.ofNat x))) hFC (r := uM r [a, b]) (w := w2) (allL_ok q_gwR3 x hx2) (fun v0 h0 => vI_ok h0) h
    simp only [List.map_cons (l := []), List.map_nil, sVal, sI_c] at g
    exact g
end RX
