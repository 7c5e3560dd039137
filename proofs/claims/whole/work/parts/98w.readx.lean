/-! 98w: read: tools; the class: refusals, the end of a PART (by wip/whole/mk98w.py) -/
/-- ranges of places -/
noncomputable def cRg (l : List (Nat × Nat)) (u : Nat) : Bool := List.rec (motive := fun _ => Bool) false (fun x _ ih => Bool.or (Bool.and (Nat.ble x.1 u) (Nat.ble u x.2)) ih) l
def outR (u : Nat) : List (Nat × Nat) → Prop
  | [] => True
  | (a, b) :: l => (u < a ∨ b < u) ∧ outR u l
theorem chR_no {u : Nat} : ∀ {l : List (Nat × Nat)}, outR u l → cRg l u = false
  | [], _ => rfl
  | (a, b) :: l, h => by
    show Bool.or (Bool.and (Nat.ble a u) (Nat.ble u b)) (cRg l u) = false
    rw [chR_no h.2]
    cases h1 : Nat.ble a u with
    | false => rfl
    | true =>
      cases h2 : Nat.ble u b with
      | false => rfl
      | true =>
        have a1 := Nat.le_of_ble_eq_true h1
        have a2 := Nat.le_of_ble_eq_true h2
        rcases h.1 with h | h <;> omega
theorem kpR {l : List (Nat × Nat)} {b n : Nat} {tv : Nat → sC} {r r1 : sE} {u : Nat} (h : kpC (cRg l) b n tv r r1) (hv : isV b n tv u = true) (ho : outR u l) : r1.1 u = r.1 u := h.1 u hv (chR_no ho)
theorem uM0 {r : sE} {x : Int32} {l : List Int32} : sI (uM r (x :: l)) (.var (nat_lit 819290)) = x := by
  rw [sI_v]
  exact uM_v 0
theorem uM1 {r : sE} {a x : Int32} {l : List Int32} : sI (uM r (a :: x :: l)) (.var (nat_lit 819291)) = x := by
  rw [sI_v]
  exact uM_v 1
theorem uM2 {r : sE} {a b x : Int32} {l : List Int32} : sI (uM r (a :: b :: x :: l)) (.var (nat_lit 819292)) = x := by
  rw [sI_v]
  exact uM_v 2
theorem uMv {r : sE} {l : List Int32} {u : Nat} (h : u < 819290) : sI (uM r l) (.var u) = r.1 u := by rw [sI_v, uM_lo h]
theorem eU_v {b : Nat} {r : sE} {vs : List Int32} {m : sM} {i j u : Nat} (hj : j < 4096) (hu : u < 819290) (h : isE m i j (.var u) = true) : (eOf b (uM r vs) m).1 (4096 * (b + i) + j) = r.1 u := (isE_ok hj h).trans (uMv hu)
theorem eU_c {b : Nat} {r : sE} {vs : List Int32} {m : sM} {i j k : Nat} (hj : j < 4096) (h : isE m i j (.natCast k) = true) : (eOf b (uM r vs) m).1 (4096 * (b + i) + j) = Int32.ofNat k := (isE_ok hj h).trans sI_c
theorem eU_0 {b : Nat} {r : sE} {x : Int32} {vs : List Int32} {m : sM} {i j : Nat} (hj : j < 4096) (h : isE m i j (.var (nat_lit 819290)) = true) : (eOf b (uM r (x :: vs)) m).1 (4096 * (b + i) + j) = x := (isE_ok hj h).trans uM0
theorem eU_1 {b : Nat} {r : sE} {a x : Int32} {vs : List Int32} {m : sM} {i j : Nat} (hj : j < 4096) (h : isE m i j (.var (nat_lit 819291)) = true) : (eOf b (uM r (a :: x :: vs)) m).1 (4096 * (b + i) + j) = x := (isE_ok hj h).trans uM1
theorem uMc {r : sE} {vs : List Int32} {u k : Nat} (hu : u < 819290) (h : r.1 u = Int32.ofNat k) : (uM r vs).1 u = sI (uM r vs) (.natCast k) := by
  rw [uM_lo hu, sI_c]
  exact h
section RT
variable {D : va_G} {cy : Nat → ClassId} {al : Nat → Nat} {rest : va_W}
theorem g_segU {Ch : Nat → Bool} {l : Launch} {r : sE} {vs : List Int32} {b n fuel d k pc : Nat} {L : sL} {st : List sV} {tv : Nat → sC} {K : Nat → Bool} {ovs : List sOv} {pa : List sK} {stop : Nat → Bool} {ks : sM → sKs} {kr : sM → sKr} {Rt : Option Value → va_W → Prop} {At : gAt} (hFC : gFC l D cy al k d Rt At) (hb : b + n ≤ 200) (ht : tOk b n tv tv) (hct : ∀ r, cC b n tv r) (hp : sPa (uM r vs) pa) (hov : ∀ q ∈ ovs, (uM r vs).1 (4096 * (b + q.1) + q.2.1) = sI (uM r vs) q.2.2)
    (h : sBeg b n tv K ovs (fun m0 => sx PG fuel d (PG k) stop (fun pc L st pa m => Bool.and (sKC Ch b n tv K m0 m) (ks m0 pc L st pa m)) (fun v pa m => Bool.and (sKC Ch b n tv K m0 m) (kr m0 v pa m)) pc L st pa m0) = true)
    (hS : ∀ (m0 : sM) (pc : Nat) (L : sL) (st : List sV) (pa : List sK) (m : sM), ks m0 pc L st pa m = true → sPa (uM r vs) pa → kpC Ch b n tv r (eOf b (uM r vs) m) → At pc (L.map (Option.map (sVal (uM r vs) al))) (st.map (sVal (uM r vs) al)) (tW (eOf b (uM r vs) m) al cy rest n tv))
    (hR : ∀ (m0 : sM) (v : Option sV) (pa : List sK) (m : sM), kr m0 v pa m = true → sPa (uM r vs) pa → kpC Ch b n tv r (eOf b (uM r vs) m) → Rt (v.map (sVal (uM r vs) al)) (tW (eOf b (uM r vs) m) al cy rest n tv)) : At pc (L.map (Option.map (sVal (uM r vs) al))) (st.map (sVal (uM r vs) al)) (tW r al cy rest n tv) := by
  have g := g_segC hFC (r := uM r vs) (al := al) (cy := cy) (rest := rest) hb ht (hct _) hp hov h (fun m0 pc L st pa m a c e => hS m0 pc L st pa m a c (kpC_trans (kpC_uM hb) e)) (fun m0 v pa m a c e => hR m0 v pa m a c (kpC_trans (kpC_uM hb) e))
  rw [tW_uM hb (fun i hi => (ht i hi).1)] at g
  exact g
theorem g_segV {l : Launch} {r : sE} {vs : List Int32} {b n fuel d k pc : Nat} {L : sL} {st : List sV} {tv : Nat → sC} {K : Nat → Bool} {ovs : List sOv} {pa : List sK} {stop : Nat → Bool} {ks : Nat → sL → List sV → List sK → Bool} {kr : Option sV → List sK → Bool} {Rt : Option Value → va_W → Prop} {At : gAt} (hFC : gFC l D cy al k d Rt At) (hb : b + n ≤ 200) (ht : tOk b n tv tv) (hct : ∀ r, cC b n tv r) (hp : sPa (uM r vs) pa) (hov : ∀ q ∈ ovs, (uM r vs).1 (4096 * (b + q.1) + q.2.1) = sI (uM r vs) q.2.2)
    (h : sBeg b n tv K ovs (fun m0 => sx PG fuel d (PG k) stop (fun pc L st pa m => Bool.and (eqL eqC m m0) (ks pc L st pa)) (fun v pa m => Bool.and (eqL eqC m m0) (kr v pa)) pc L st pa m0) = true)
    (hS : ∀ (pc : Nat) (L : sL) (st : List sV) (pa : List sK), ks pc L st pa = true → sPa (uM r vs) pa → At pc (L.map (Option.map (sVal (uM r vs) al))) (st.map (sVal (uM r vs) al)) (tW r al cy rest n tv))
    (hR : ∀ (v : Option sV) (pa : List sK), kr v pa = true → sPa (uM r vs) pa → Rt (v.map (sVal (uM r vs) al)) (tW r al cy rest n tv)) : At pc (L.map (Option.map (sVal (uM r vs) al))) (st.map (sVal (uM r vs) al)) (tW r al cy rest n tv) := by
  have e := tW_uM (r := r) (l := vs) (al := al) (cy := cy) (rest := rest) hb (fun i hi => (ht i hi).1)
  have g := g_segS hFC (r := uM r vs) (al := al) (cy := cy) (rest := rest) ht (hct _) hp hov h (fun pc L st pa a c => by rw [e]; exact hS pc L st pa a c) (fun v pa a c => by rw [e]; exact hR v pa a c)
  rw [e] at g
  exact g
theorem c_runU {Ch : Nat → Bool} (l : Launch) {r : sE} {vs : List Int32} {b n fuel d k : Nat} {tv : Nat → sC} {K : Nat → Bool} {ovs : List sOv} {pa : List sK} {as : List sV} {kr : sM → sKr} (hb : b + n ≤ 200) (ht : tOk b n tv tv) (hct : ∀ r, cC b n tv r) (hp : sPa (uM r vs) pa) (hov : ∀ q ∈ ovs, (uM r vs).1 (4096 * (b + q.1) + q.2.1) = sI (uM r vs) q.2.2)
    (h : sBeg b n tv K ovs (fun m0 => sRun fuel d k pa m0 as (fun v pa m => Bool.and (sKC Ch b n tv K m0 m) (kr m0 v pa m))) = true) {G : Option Value → va_W → Prop}
    (hG : ∀ (m0 : sM) (v : Option sV) (pa : List sK) (m : sM), kr m0 v pa m = true → sPa (uM r vs) pa → kpC Ch b n tv r (eOf b (uM r vs) m) → G (v.map (sVal (uM r vs) al)) (tW (eOf b (uM r vs) m) al cy rest n tv)) : gMet l D cy al d k (tW r al cy rest n tv) (as.map (sVal (uM r vs) al)) G := by
  have g := c_runC l (D := D) (r := uM r vs) (al := al) (cy := cy) (rest := rest) (G := G) hb ht (hct _) hp hov h (fun m0 v pa m a c e => hG m0 v pa m a c (kpC_trans (kpC_uM hb) e))
  rw [tW_uM hb (fun i hi => (ht i hi).1)] at g
  exact g
-- rows of TROUBLES
def rwT (pa pb : Nat) (r : sE) : txT → Prop
  | [] => True
  | x :: O => (r.1 (pa + O.length) = Int32.ofNat x.1 ∧ r.1 (pb + O.length) = Int32.ofNat x.2) ∧ rwT pa pb r O
theorem rwT_cp {pa pb qa qb : Nat} {r r1 : sE} : ∀ {O : txT}, (∀ i, i < O.length → r1.1 (qa + i) = r.1 (pa + i) ∧ r1.1 (qb + i) = r.1 (pb + i)) → rwT pa pb r O → rwT qa qb r1 O
  | [], _, _ => trivial
  | x :: O, h, g => ⟨⟨((h O.length (by simp)).1).trans g.1.1, ((h O.length (by simp)).2).trans g.1.2⟩, rwT_cp (fun i hi => h i (by simp; omega)) g.2⟩
theorem rwT_eq {pa pb qa qb : Nat} {r r1 : sE} : ∀ {O : txT}, rwT pa pb r O → rwT qa qb r1 O → ∀ i, i < O.length → r.1 (pa + i) = r1.1 (qa + i) ∧ r.1 (pb + i) = r1.1 (qb + i)
  | [], _, _, i, hi => absurd hi (by simp)
  | x :: O, h, g, i, hi => by
    by_cases he : i = O.length
    · subst he
      exact ⟨h.1.1.trans g.1.1.symm, h.1.2.trans g.1.2.symm⟩
    · exact rwT_eq h.2 g.2 i (by simp at hi; omega)
def XO (r : sE) (O : txT) : Prop := r.1 (xP 53 0) = Int32.ofNat O.length ∧ rwT (xP 54 0) (xP 55 0) r O
def WHX (r : sE) (T : txT) : Prop := r.1 (xP 50 0) = Int32.ofNat T.length ∧ rwT (xP 51 0) (xP 52 0) r T
def rwM (r : sE) : List (List Nat) → Prop
  | [] => True
  | m :: M => r.1 (xP 56 0 + M.length) = Int32.ofNat (ocode m) ∧ rwM r M
theorem rwM_st {r r1 : sE} : ∀ {M : List (List Nat)}, (∀ i, i < M.length → r1.1 (xP 56 0 + i) = r.1 (xP 56 0 + i)) → rwM r M → rwM r1 M
  | [], _, _ => trivial
  | m :: M, h, g => ⟨(h M.length (by simp)).trans g.1, rwM_st (fun i hi => h i (by simp; omega)) g.2⟩
def XM (n : Nat) (r : sE) (M : List (List Nat)) : Prop := (1 ≤ M.length ∧ M.length ≤ 4) ∧ (∀ m ∈ M, m ∈ ordN n) ∧ r.1 (xP 49 3) = Int32.ofNat (M.length - 1) ∧ rwM r M
def okT (O : txT) : Prop := ∀ x ∈ O, x.1 = 2 ∨ x.1 = 3
theorem vX_r : ∀ i ∈ [50, 51, 52, 53, 54, 55, 56, 47, 48], ∀ j, j < 81 → (j = 0 ∨ (i ≠ 50 ∧ i ≠ 53 ∧ i ≠ 56 ∧ i ≠ 47 ∧ i ≠ 48) ∨ (i = 56 ∧ j < 4) ∨ (i = 48 ∧ j < 80)) → isV 0 68 tXv (xP i j) = true := by
  have h := lAll_ok (show lAll (fun i => allL 81 (fun j => Bool.or (Bool.not (Bool.or (Nat.beq j (nat_lit 0)) (Bool.or (Bool.not (memB [nat_lit 50, nat_lit 53, nat_lit 56, nat_lit 47, nat_lit 48] i)) (Bool.or (Bool.and (Nat.beq i (nat_lit 56)) (Nat.ble (Nat.succ j) (nat_lit 4))) (Bool.and (Nat.beq i (nat_lit 48)) (Nat.ble (Nat.succ j) (nat_lit 80))))))) (isV (nat_lit 0) (nat_lit 68) tXv (Nat.add (Nat.mul (nat_lit 4096) i) j)))) [nat_lit 50, nat_lit 51, nat_lit 52, nat_lit 53, nat_lit 54, nat_lit 55, nat_lit 56, nat_lit 47, nat_lit 48] = true by decide +kernel)
  intro i hi j hj hc
  have g := allL_ok (h i hi) j hj
  rw [Bool.or_eq_true] at g
  rcases g with g | g
  · exfalso
    have g2 := not_t (show Bool.not _ = true from g)
    rw [Bool.or_eq_false_iff, Bool.or_eq_false_iff, Bool.or_eq_false_iff] at g2
    obtain ⟨a1, a2, a3, a4⟩ := g2
    rcases hc with rfl | ⟨c1, c2, c3, c4, c5⟩ | ⟨rfl, c1⟩ | ⟨rfl, c1⟩
    · cases a1
    · have b : memB [50, 53, 56, 47, 48] i = true := by
        cases hb : memB [50, 53, 56, 47, 48] i with
        | true => rfl
        | false =>
          have : Bool.not (memB [50, 53, 56, 47, 48] i) = false := a2
          rw [hb] at this
          cases this
      have b2 := memB_ok.mp b
      simp at b2
      omega
    · have : Nat.ble (j + 1) 4 = true := Nat.ble_eq_true_of_le (by omega)
      rw [Bool.and_eq_false_iff] at a3
      rcases a3 with a3 | a3
      · cases a3
      · rw [show Nat.ble (Nat.succ j) 4 = Nat.ble (j + 1) 4 from rfl, this] at a3
        cases a3
    · have : Nat.ble (j + 1) 80 = true := Nat.ble_eq_true_of_le (by omega)
      rw [Bool.and_eq_false_iff] at a4
      rcases a4 with a4 | a4
      · cases a4
      · rw [show Nat.ble (Nat.succ j) 80 = Nat.ble (j + 1) 80 from rfl, this] at a4
        cases a4
  · exact g
theorem vX_49 : ∀ j, j < 12 → 3 ≤ j → isV 0 68 tXv (xP 49 j) = true := by
  intro j hj h3
  have h := allL_ok (show allL 9 (fun j => isV (nat_lit 0) (nat_lit 68) tXv (Nat.add (nat_lit 200707) j)) = true by decide +kernel) (j - 3) (by omega)
  rw [show xP 49 j = 200707 + (j - 3) by unfold xP; omega]
  exact h
noncomputable def refS (k t : Nat) (m : sM) : Bool := Bool.and (Bool.and (isE m (nat_lit 50) (nat_lit 0) (.natCast (Nat.succ k))) (allL k (fun i => Bool.and (isE m (nat_lit 51) i (.var (Nat.add (nat_lit 221184) i))) (isE m (nat_lit 52) i (.var (Nat.add (nat_lit 225280) i)))))) (Bool.and (isE m (nat_lit 51) k (.natCast t)) (isE m (nat_lit 52) k (.var (nat_lit 819290))))
noncomputable def faQ (k : Nat) : Bool := sBeg (nat_lit 0) (nat_lit 68) tXv (memB [(nat_lit 49), (nat_lit 50), (nat_lit 51), (nat_lit 52), (nat_lit 53), (nat_lit 54), (nat_lit 55)]) [((nat_lit 53), (nat_lit 0), (.natCast k))] (fun m0 => sRun (nat_lit 3000) (nat_lit 5) (nat_lit 28) [] m0 [.inr (.inr (some (nat_lit 49))), .inl (.var (nat_lit 819290))] (fun v _ m => Bool.and (sKC (cRg [((nat_lit 204800), (nat_lit 213072))]) (nat_lit 0) (nat_lit 68) tXv (memB [(nat_lit 49), (nat_lit 50), (nat_lit 51), (nat_lit 52), (nat_lit 53), (nat_lit 54), (nat_lit 55)]) m0 m) (Bool.and (eqO v (some (.inl (.pow (.mul (.natCast (nat_lit 4294967196)) (.var (nat_lit 819290))) (nat_lit 1))))) (refS k (nat_lit 1) m))))
noncomputable def noQ (k : Nat) : Bool := sBeg (nat_lit 0) (nat_lit 68) tXv (memB [(nat_lit 49), (nat_lit 50), (nat_lit 51), (nat_lit 52), (nat_lit 53), (nat_lit 54), (nat_lit 55)]) [((nat_lit 53), (nat_lit 0), (.natCast k)), ((nat_lit 49), (nat_lit 6), (.natCast (nat_lit 0)))] (fun m0 => sRun (nat_lit 3000) (nat_lit 5) (nat_lit 30) [] m0 [.inr (.inr (some (nat_lit 49))), .inl (.var (nat_lit 819290))] (fun v _ m => Bool.and (sKC (cRg [((nat_lit 200710), (nat_lit 200710)), ((nat_lit 204800), (nat_lit 213072))]) (nat_lit 0) (nat_lit 68) tXv (memB [(nat_lit 49), (nat_lit 50), (nat_lit 51), (nat_lit 52), (nat_lit 53), (nat_lit 54), (nat_lit 55)]) m0 m) (Bool.and (eqO v none) (Bool.and (isE m (nat_lit 49) (nat_lit 6) (.natCast (nat_lit 1))) (refS k (nat_lit 4) m)))))
theorem q_faQ0 : allL 27 (fun k => faQ (Nat.add (nat_lit 0) k)) = true := by decide +kernel
theorem q_faQ1 : allL 27 (fun k => faQ (Nat.add (nat_lit 27) k)) = true := by decide +kernel
theorem q_faQ2 : allL 27 (fun k => faQ (Nat.add (nat_lit 54) k)) = true := by decide +kernel
theorem q_faQ {k : Nat} (hk : k < 81) : faQ k = true := by
  rcases (show k < 27 ∨ (27 ≤ k ∧ k < 54) ∨ 54 ≤ k by omega) with h | ⟨h1, h2⟩ | h
  · have := allL_ok q_faQ0 k h
    rw [show Nat.add 0 k = k from Nat.zero_add k] at this
    exact this
  · have := allL_ok q_faQ1 (k - 27) (by omega)
    rw [show Nat.add 27 (k - 27) = k by show 27 + (k - 27) = k; omega] at this
    exact this
  · have := allL_ok q_faQ2 (k - 54) (by omega)
    rw [show Nat.add 54 (k - 54) = k by show 54 + (k - 54) = k; omega] at this
    exact this
theorem q_noQ0 : allL 27 (fun k => noQ (Nat.add (nat_lit 0) k)) = true := by decide +kernel
theorem q_noQ1 : allL 27 (fun k => noQ (Nat.add (nat_lit 27) k)) = true := by decide +kernel
theorem q_noQ2 : allL 27 (fun k => noQ (Nat.add (nat_lit 54) k)) = true := by decide +kernel
theorem q_noQ {k : Nat} (hk : k < 81) : noQ k = true := by
  rcases (show k < 27 ∨ (27 ≤ k ∧ k < 54) ∨ 54 ≤ k by omega) with h | ⟨h1, h2⟩ | h
  · have := allL_ok q_noQ0 k h
    rw [show Nat.add 0 k = k from Nat.zero_add k] at this
    exact this
  · have := allL_ok q_noQ1 (k - 27) (by omega)
    rw [show Nat.add 27 (k - 27) = k by show 27 + (k - 27) = k; omega] at this
    exact this
  · have := allL_ok q_noQ2 (k - 54) (by omega)
    rw [show Nat.add 54 (k - 54) = k by show 54 + (k - 54) = k; omega] at this
    exact this
theorem q_noS : sBeg (nat_lit 0) (nat_lit 68) tXv (memB [(nat_lit 49)]) [((nat_lit 49), (nat_lit 6), (.natCast (nat_lit 1)))] (fun m0 => sRun (nat_lit 3000) (nat_lit 5) (nat_lit 30) [] m0 [.inr (.inr (some (nat_lit 49))), .inl (.var (nat_lit 819290))] (fun v _ m => Bool.and (sKC (cRg []) (nat_lit 0) (nat_lit 68) tXv (memB [(nat_lit 49)]) m0 m) (eqO v none))) = true := by decide +kernel
theorem refS_ok {r : sE} {vs : List Int32} {t p : Nat} {O : txT} {m : sM} (hO : XO r O) (hk : O.length < 81) (h : refS O.length t m = true) : WHX (eOf 0 (uM r (Int32.ofNat p :: vs)) m) ((t, p) :: O) := by
  unfold refS at h
  simp only [Bool.and_eq_true] at h
  obtain ⟨⟨h1, h2⟩, h3, h4⟩ := h
  refine ⟨eU_c (by first | decide | omega) h1, ⟨eU_c (by first | decide | omega) h3, eU_0 (by first | decide | omega) h4⟩, rwT_cp (r := r) (pa := xP 54 0) (pb := xP 55 0) (fun i hi => ?_) hO.2⟩
  have g := allL_ok h2 i hi
  rw [Bool.and_eq_true] at g
  exact ⟨eU_v (by first | decide | omega) (show 221184 + i < 819290 by omega) g.1, eU_v (by first | decide | omega) (show 225280 + i < 819290 by omega) g.2⟩
/-- the answer to a FAULT -/
def faV (p : Nat) : Int32 := Int32.ofNat 4294967196 - Int32.ofNat p
theorem c_fault (l : Launch) {r : sE} {p d : Nat} {O : txT} (hd : 5 ≤ d) (hO : XO r O) (hk : O.length < 81) : gMet l D cy al d 28 (tW r al cy rest 68 tXv) [.ref (al 49), .int (Int32.ofNat p)] (fun v w => v = some (.int (faV p)) ∧ ∃ r1, kpC (cRg [(204800, 213072)]) 0 68 tXv r r1 ∧ WHX r1 ((1, p) :: O) ∧ w = tW r1 al cy rest 68 tXv) := by
  refine gMet_up hd ?_
  have g := c_runU l (D := D) (al := al) (cy := cy) (rest := rest) (r := r) (vs := [Int32.ofNat p]) (G := fun v w => v = some (.int (faV p)) ∧ ∃ r1, kpC (cRg [(204800, 213072)]) 0 68 tXv r r1 ∧ WHX r1 ((1, p) :: O) ∧ w = tW r1 al cy rest 68 tXv) (by omega) tXv_ok cC_X sPa_nil (oX_cons (uMc (by decide) hO.1) oX_nil) (q_faQ hk) (fun m0 v pa m hk1 hp hkp => ?_)
  · simp only [List.map_cons, List.map_nil, sVal, uM0] at g
    exact g
  rw [Bool.and_eq_true] at hk1
  refine ⟨?_, _, hkp, refS_ok hO hk hk1.2, rfl⟩
  rw [eqO_ok hk1.1]
  show some (Value.int (sI _ (.pow (.mul (.natCast 4294967196) (.var (nat_lit 819290))) 1))) = _
  show some (Value.int (sD _ _).1) = _
  rw [sD_b]
  show some (Value.int (sI _ (.natCast 4294967196) - sI _ (.var (nat_lit 819290)))) = _
  rw [sI_c, uM0]
  rfl
/-- what is WRONG, class -/
def XW (r : sE) (W : Option txT) : Prop := match W with
  | none => r.1 (xP 49 6) = Int32.ofNat 0
  | some T => r.1 (xP 49 6) = Int32.ofNat 1 ∧ WHX r T
theorem WHX_st {r r1 : sE} {T : txT} {l : List (Nat × Nat)} (h : kpC (cRg l) 0 68 tXv r r1) (hT : T.length ≤ 81) (h0 : outR (xP 50 0) l) (h1 : ∀ i, i < 81 → outR (xP 51 i) l ∧ outR (xP 52 i) l) (hw : WHX r T) : WHX r1 T := ⟨(kpR h (vX_r 50 (by simp) 0 (by omega) (Or.inl rfl)) h0).trans hw.1, rwT_cp (fun i hi => by
  have a1 := kpR h (vX_r 51 (by simp) i (by omega) (Or.inr (Or.inl (by omega)))) (h1 i (by omega)).1
  have a2 := kpR h (vX_r 52 (by simp) i (by omega) (Or.inr (Or.inl (by omega)))) (h1 i (by omega)).2
  exact ⟨by rw [show xP 51 0 + i = xP 51 i by unfold xP; omega]; exact a1, by rw [show xP 52 0 + i = xP 52 i by unfold xP; omega]; exact a2⟩) hw.2⟩
theorem XO_st {r r1 : sE} {O : txT} {l : List (Nat × Nat)} (h : kpC (cRg l) 0 68 tXv r r1) (hT : O.length ≤ 81) (h0 : outR (xP 53 0) l) (h1 : ∀ i, i < O.length → outR (xP 54 i) l ∧ outR (xP 55 i) l) (hw : XO r O) : XO r1 O := ⟨(kpR h (vX_r 53 (by simp) 0 (by omega) (Or.inl rfl)) h0).trans hw.1, rwT_cp (fun i hi => by
  have a1 := kpR h (vX_r 54 (by simp) i (by omega) (Or.inr (Or.inl (by omega)))) (h1 i (by omega)).1
  have a2 := kpR h (vX_r 55 (by simp) i (by omega) (Or.inr (Or.inl (by omega)))) (h1 i (by omega)).2
  exact ⟨by rw [show xP 54 0 + i = xP 54 i by unfold xP; omega]; exact a1, by rw [show xP 55 0 + i = xP 55 i by unfold xP; omega]; exact a2⟩) hw.2⟩
theorem rwX_st {r r1 : sE} {O : txT} {l : List (Nat × Nat)} (h : kpC (cRg l) 0 68 tXv r r1) (hT : O.length ≤ 81) (h1 : ∀ i, i < O.length → outR (xP 54 i) l ∧ outR (xP 55 i) l) (hw : rwT (xP 54 0) (xP 55 0) r O) : rwT (xP 54 0) (xP 55 0) r1 O := rwT_cp (fun i hi => by
  have a1 := kpR h (vX_r 54 (by simp) i (by omega) (Or.inr (Or.inl (by omega)))) (h1 i (by omega)).1
  have a2 := kpR h (vX_r 55 (by simp) i (by omega) (Or.inr (Or.inl (by omega)))) (h1 i (by omega)).2
  exact ⟨by rw [show xP 54 0 + i = xP 54 i by unfold xP; omega]; exact a1, by rw [show xP 55 0 + i = xP 55 i by unfold xP; omega]; exact a2⟩) hw
theorem rwM_kp {r r1 : sE} {M : List (List Nat)} {l : List (Nat × Nat)} (h : kpC (cRg l) 0 68 tXv r r1) (hT : M.length ≤ 4) (h1 : ∀ i, i < M.length → outR (xP 56 i) l) (hw : rwM r M) : rwM r1 M := rwM_st (fun i hi => by
  have a1 := kpR h (vX_r 56 (by simp) i (by omega) (Or.inr (Or.inr (Or.inl ⟨rfl, by omega⟩)))) (h1 i (by omega))
  rw [show xP 56 0 + i = xP 56 i by unfold xP; omega]
  exact a1) hw
theorem XM_st {n : Nat} {r r1 : sE} {M : List (List Nat)} {l : List (Nat × Nat)} (h : kpC (cRg l) 0 68 tXv r r1) (h0 : outR (xP 49 3) l) (h1 : ∀ i, i < 4 → outR (xP 56 i) l) (hw : XM n r M) : XM n r1 M := ⟨hw.1, hw.2.1, (kpR h (vX_49 3 (by omega) (by omega)) h0).trans hw.2.2.1, rwM_kp h hw.1.2 (fun i hi => h1 i (by have := hw.1.2; omega)) hw.2.2.2⟩
theorem XW_st {r r1 : sE} {W : Option txT} {l : List (Nat × Nat)} (h : kpC (cRg l) 0 68 tXv r r1) (hT : ∀ T, W = some T → T.length ≤ 81) (h6 : outR (xP 49 6) l) (h0 : outR (xP 50 0) l) (h1 : ∀ i, i < 81 → outR (xP 51 i) l ∧ outR (xP 52 i) l) (hw : XW r W) : XW r1 W := by
  cases W with
  | none => exact (kpR h (vX_49 6 (by omega) (by omega)) h6).trans hw
  | some T => exact ⟨(kpR h (vX_49 6 (by omega) (by omega)) h6).trans hw.1, WHX_st h (hT T rfl) h0 h1 hw.2⟩
theorem c_note (l : Launch) {r : sE} {p d : Nat} {O : txT} {W : Option txT} (hd : 5 ≤ d) (hO : XO r O) (hk : O.length < 81) (hW : XW r W) (hT : ∀ T, W = some T → T.length ≤ 81) : gMet l D cy al d 30 (tW r al cy rest 68 tXv) [.ref (al 49), .int (Int32.ofNat p)] (fun v w => v = none ∧ ∃ r1, kpC (cRg [(200710, 200710), (204800, 213072)]) 0 68 tXv r r1 ∧ XW r1 (txW W O p) ∧ w = tW r1 al cy rest 68 tXv) := by
  refine gMet_up hd ?_
  cases W with
  | none =>
    have g := c_runU l (D := D) (al := al) (cy := cy) (rest := rest) (r := r) (vs := [Int32.ofNat p]) (G := fun v w => v = none ∧ ∃ r1, kpC (cRg [(200710, 200710), (204800, 213072)]) 0 68 tXv r r1 ∧ XW r1 (txW none O p) ∧ w = tW r1 al cy rest 68 tXv) (by omega) tXv_ok cC_X sPa_nil (oX_cons (uMc (by decide) hO.1) (oX_cons (uMc (by decide) hW) oX_nil)) (q_noQ hk) (fun m0 v pa m hk1 hp hkp => ?_)
    · simp only [List.map_cons, List.map_nil, sVal, uM0] at g
      exact g
    rw [Bool.and_eq_true, Bool.and_eq_true] at hk1
    exact ⟨by rw [eqO_ok hk1.1]; rfl, _, hkp, ⟨eU_c (by first | decide | omega) hk1.2.1, refS_ok hO hk hk1.2.2⟩, rfl⟩
  | some T =>
    have g := c_runU l (D := D) (al := al) (cy := cy) (rest := rest) (r := r) (vs := [Int32.ofNat p]) (G := fun v w => v = none ∧ ∃ r1, kpC (cRg [(200710, 200710), (204800, 213072)]) 0 68 tXv r r1 ∧ XW r1 (txW (some T) O p) ∧ w = tW r1 al cy rest 68 tXv) (by omega) tXv_ok cC_X sPa_nil (oX_cons (uMc (by decide) hW.1) oX_nil) q_noS (fun m0 v pa m hk1 hp hkp => ?_)
    · simp only [List.map_cons, List.map_nil, sVal, uM0] at g
      exact g
    refine ⟨by rw [eqO_ok hk1]; rfl, _, kpC_weak (fun _ _ => rfl) hkp, ?_, rfl⟩
    exact XW_st (W := some T) hkp hT trivial trivial (fun i hi => ⟨trivial, trivial⟩) hW
noncomputable def iEx (k : Nat) : sX := Nat.rec (motive := fun _ => sX) (.natCast (nat_lit 4294967295)) (fun j _ => .natCast j) k
noncomputable def LEn (k : Nat) : sL := [some (.inr (.inr (some (nat_lit 49)))), some (.inl (.var (nat_lit 819291))), some (.inl (.var (nat_lit 819290))), some (.inl (iEx k))]
theorem q_enE : sEnt [.inr (.inr (some (nat_lit 49))), .inl (.var (nat_lit 819290))] (PG (nat_lit 39)).2.1 (fun L => eqL eqO L [some (.inr (.inr (some (nat_lit 49)))), some (.inl (.var (nat_lit 819290))), none, none]) = true := by decide +kernel
theorem q_en0 : allL 81 (fun k => sBeg (nat_lit 0) (nat_lit 68) tXv (memB [(nat_lit 49), (nat_lit 53)]) [((nat_lit 53), (nat_lit 0), (.natCast k))] (fun m0 => sx PG (nat_lit 500) (nat_lit 4) (PG (nat_lit 39)) (fun pc => memB [(nat_lit 12)] pc) (fun pc L st _ m => Bool.and (eqL eqC m m0) (kAt (nat_lit 12) [some (.inr (.inr (some (nat_lit 49)))), some (.inl (.var (nat_lit 819290))), some (.inl (.var (nat_lit 819290))), some (.inl (iEx k))] [] pc L st)) (fun v _ m => Bool.and (eqL eqC m m0) false) (nat_lit 0) [some (.inr (.inr (some (nat_lit 49)))), some (.inl (.var (nat_lit 819290))), none, none] [] [] m0)) = true := by decide +kernel
theorem q_en1z : sBeg (nat_lit 0) (nat_lit 68) tXv (memB [(nat_lit 49), (nat_lit 53), (nat_lit 54)]) [] (fun m0 => sx PG (nat_lit 500) (nat_lit 4) (PG (nat_lit 39)) (fun pc => memB [(nat_lit 53), (nat_lit 30)] pc) (fun pc L st _ m => Bool.and (eqL eqC m m0) (kAt (nat_lit 53) (LEn (nat_lit 0)) [] pc L st)) (fun v _ m => Bool.and (eqL eqC m m0) false) (nat_lit 12) (LEn (nat_lit 0)) [] [] m0) = true := by decide +kernel
theorem q_en12 : allL 81 (fun k => sBeg (nat_lit 0) (nat_lit 68) tXv (memB [(nat_lit 49), (nat_lit 53), (nat_lit 54)]) [((nat_lit 54), k, (.natCast (nat_lit 2)))] (fun m0 => sx PG (nat_lit 500) (nat_lit 4) (PG (nat_lit 39)) (fun pc => memB [(nat_lit 53), (nat_lit 30)] pc) (fun pc L st _ m => Bool.and (eqL eqC m m0) (kAt (nat_lit 53) (LEn (Nat.succ k)) [] pc L st)) (fun v _ m => Bool.and (eqL eqC m m0) false) (nat_lit 12) (LEn (Nat.succ k)) [] [] m0)) = true := by decide +kernel
theorem q_en13 : allL 81 (fun k => sBeg (nat_lit 0) (nat_lit 68) tXv (memB [(nat_lit 49), (nat_lit 53), (nat_lit 54)]) [((nat_lit 54), k, (.natCast (nat_lit 3)))] (fun m0 => sx PG (nat_lit 500) (nat_lit 4) (PG (nat_lit 39)) (fun pc => memB [(nat_lit 53), (nat_lit 30)] pc) (fun pc L st _ m => Bool.and (eqL eqC m m0) (kAt (nat_lit 30) (LEn (Nat.succ k)) [.inl (.var (nat_lit 819290))] pc L st)) (fun v _ m => Bool.and (eqL eqC m m0) false) (nat_lit 12) (LEn (Nat.succ k)) [] [] m0)) = true := by decide +kernel
theorem q_en2 : allL 81 (fun k => sBeg (nat_lit 0) (nat_lit 68) tXv (memB [(nat_lit 49), (nat_lit 53)]) [((nat_lit 53), (nat_lit 0), (.natCast (Nat.succ k)))] (fun m0 => sx PG (nat_lit 2000) (nat_lit 4) (PG (nat_lit 39)) (fun pc => memB [(nat_lit 12)] pc) (fun pc L st _ m => Bool.and (sKC (cRg [((nat_lit 217088), (nat_lit 217088))]) (nat_lit 0) (nat_lit 68) tXv (memB [(nat_lit 49), (nat_lit 53)]) m0 m) (Bool.and (kAt (nat_lit 12) [some (.inr (.inr (some (nat_lit 49)))), some (.inl (.var (nat_lit 819291))), some (.inl (.var (nat_lit 819292))), some (.inl (iEx k))] [] pc L st) (isE m (nat_lit 53) (nat_lit 0) (.natCast k)))) (fun v _ m => Bool.and (sKC (cRg [((nat_lit 217088), (nat_lit 217088))]) (nat_lit 0) (nat_lit 68) tXv (memB [(nat_lit 49), (nat_lit 53)]) m0 m) false) (nat_lit 33) (LEn (Nat.succ k)) [.inl (.var (nat_lit 819292))] [] m0)) = true := by decide +kernel
theorem q_en3 : allL 82 (fun k => allL 4 (fun b => sBeg (nat_lit 0) (nat_lit 68) tXv (memB [(nat_lit 49), (nat_lit 56)]) [((nat_lit 49), (nat_lit 3), (.natCast b))] (fun m0 => sx PG (nat_lit 500) (nat_lit 4) (PG (nat_lit 39)) (fun pc => memB [(nat_lit 71)] pc) (fun pc L st _ m => Bool.and (eqL eqC m m0) (kAt (nat_lit 71) (LEn k) [.inl (.var (nat_lit 819290)), .inl (.var (Nat.add (nat_lit 229376) b)), .inl (.natCast b), .inr (.inr (some (nat_lit 56)))] pc L st)) (fun v _ m => Bool.and (eqL eqC m m0) false) (nat_lit 53) (LEn k) [] [] m0))) = true := by decide +kernel
theorem q_en4 : allL 82 (fun k => allL 4 (fun b => sBeg (nat_lit 0) (nat_lit 68) tXv (memB [(nat_lit 49), (nat_lit 56)]) [] (fun m0 => sx PG (nat_lit 2000) (nat_lit 4) (PG (nat_lit 39)) (fun _ => false) (fun pc L st _ m => Bool.and (sKC (cRg [(Nat.add (nat_lit 229376) b, Nat.add (nat_lit 229376) b), (nat_lit 200708, nat_lit 200708)]) (nat_lit 0) (nat_lit 68) tXv (memB [(nat_lit 49), (nat_lit 56)]) m0 m) false) (fun v _ m => Bool.and (sKC (cRg [(Nat.add (nat_lit 229376) b, Nat.add (nat_lit 229376) b), (nat_lit 200708, nat_lit 200708)]) (nat_lit 0) (nat_lit 68) tXv (memB [(nat_lit 49), (nat_lit 56)]) m0 m) (Bool.and (eqO v none) (Bool.and (isE m (nat_lit 56) b (.var (nat_lit 819292))) (isE m (nat_lit 49) (nat_lit 4) (.natCast (nat_lit 3)))))) (nat_lit 74) (LEn k) [.inl (.var (nat_lit 819292)), .inl (.natCast b), .inr (.inr (some (nat_lit 56)))] [] m0))) = true := by decide +kernel
theorem LEn_eq {r : sE} {k : Nat} {a b : Int32} {vs : List Int32} : (LEn k).map (Option.map (sVal (uM r (a :: b :: vs)) al)) = [some (.ref (al 49)), some (.int b), some (.int a), some (.int (sI r (iEx k)))] := by
  have e : sI (uM r (a :: b :: vs)) (iEx k) = sI r (iEx k) := by cases k <;> (show sI _ (.natCast _) = sI _ (.natCast _); rw [sI_c, sI_c])
  simp only [LEn, List.map_cons, List.map_nil, Option.map_some, sVal, uM0, uM1, e]
theorem iEx_eq {r r1 : sE} {k : Nat} : sI r (iEx k) = sI r1 (iEx k) := by cases k <;> (show sI _ (.natCast _) = sI _ (.natCast _); rw [sI_c, sI_c])
theorem txM_len {M : List (List Nat)} {o : List Nat} : (txM M o).length = M.length := by cases M <;> rfl
theorem txE_len {M : List (List Nat)} : ∀ {O : txT} {o : List Nat}, (txE O M o).1.length ≤ O.length ∧ (txE O M o).2.length = M.length
  | [], o => ⟨Nat.le_refl _, txM_len⟩
  | x :: O, o => by
    by_cases h : x.1 = 3
    · obtain ⟨t, p⟩ := x
      obtain rfl : t = 3 := h
      rw [txE_3]
      have := txE_len (M := M) (O := O) (o := invO o)
      exact ⟨by simp; omega, this.2⟩
    · rw [txE_no h]
      exact ⟨Nat.le_refl _, txM_len⟩
theorem txE_ok {M : List (List Nat)} : ∀ {O : txT} {o : List Nat}, okT O → okT (txE O M o).1
  | [], o, _ => fun x hx => nomatch hx
  | x :: O, o, h => by
    by_cases h3 : x.1 = 3
    · obtain ⟨t, p⟩ := x
      obtain rfl : t = 3 := h3
      rw [txE_3]
      exact txE_ok (fun y hy => h y (List.mem_cons_of_mem _ hy))
    · rw [txE_no h3]
      exact h
def CHE : List (Nat × Nat) := [(217088, 217088), (229376, 229379), (200708, 200708)]
theorem chR_w {big l : List (Nat × Nat)} {b n : Nat} {tv : Nat → sC} {r r1 : sE} (hl : ∀ x ∈ l, ∃ y ∈ big, y.1 ≤ x.1 ∧ x.2 ≤ y.2) (h : kpC (cRg l) b n tv r r1) : kpC (cRg big) b n tv r r1 := kpC_weak (fun u hu => by
  refine chR_no ?_
  have key : ∀ y ∈ big, u < y.1 ∨ y.2 < u := fun y hy => by
    have : ∀ {l : List (Nat × Nat)}, cRg l u = false → ∀ y ∈ l, u < y.1 ∨ y.2 < u := fun {l} => by
      induction l with
      | nil => intro _ y hy; cases hy
      | cons a l ih =>
        intro h y hy
        have h2 : Bool.or (Bool.and (Nat.ble a.1 u) (Nat.ble u a.2)) (cRg l u) = false := h
        rw [Bool.or_eq_false_iff] at h2
        rcases List.mem_cons.mp hy with rfl | hy
        · by_cases q1 : y.1 ≤ u
          · by_cases q2 : u ≤ y.2
            · rw [Nat.ble_eq_true_of_le q1, Nat.ble_eq_true_of_le q2] at h2
              cases h2.1
            · exact Or.inr (by omega)
          · exact Or.inl (by omega)
        · exact ih h2.2 y hy
    exact this hu y hy
  clear h
  induction l with
  | nil => trivial
  | cons x l ih =>
    obtain ⟨a, b⟩ := x
    obtain ⟨y, hy, h1, h2⟩ := hl (a, b) List.mem_cons_self
    replace h1 : y.1 ≤ a := h1
    replace h2 : b ≤ y.2 := h2
    exact ⟨by rcases key y hy with q | q <;> omega, ih (fun x hx => hl x (List.mem_cons_of_mem _ hx))⟩) h
theorem ChE_w {l : List (Nat × Nat)} {r r1 : sE} (hl : ∀ x ∈ l, ∃ y ∈ CHE, y.1 ≤ x.1 ∧ x.2 ≤ y.2) (h : kpC (cRg l) 0 68 tXv r r1) : kpC (cRg CHE) 0 68 tXv r r1 := chR_w hl h
theorem c_end (l : Launch) {n : Nat} {r : sE} {o : List Nat} {O : txT} {M : List (List Nat)} {d : Nat} (hd : 4 ≤ d) (hn : 1 ≤ n) (hn5 : n ≤ 5) (hO : XO r O) (hk : O.length < 81) (hT : okT O) (hM : XM n r M) (ho : o ∈ ordN n) : gMet l D cy al d 39 (tW r al cy rest 68 tXv) [.ref (al 49), .int (Int32.ofNat (ocode o))] (fun v w => v = none ∧ ∃ r1, kpC (cRg CHE) 0 68 tXv r r1 ∧ XO r1 (txE O M o).1 ∧ XM n r1 (txE O M o).2 ∧ r1.1 (xP 49 4) = Int32.ofNat 3 ∧ w = tW r1 al cy rest 68 tXv) := by
  refine gMet_up hd ?_
  have key := gMet_of (l := l) (D := D) (cy := cy) (al := al) (d := 4) (k := 39) (w := tW r al cy rest 68 tXv) (r := uM r [Int32.ofNat (ocode o)]) (G := fun v w => v = none ∧ ∃ r1, kpC (cRg CHE) 0 68 tXv r r1 ∧ XO r1 (txE O M o).1 ∧ XM n r1 (txE O M o).2 ∧ r1.1 (xP 49 4) = Int32.ofNat 3 ∧ w = tW r1 al cy rest 68 tXv) q_enE (fun At hFC => ?_)
  · simp only [List.map_cons, List.map_nil, sVal, uM0] at key
    exact key
  -- the product
  have tail : ∀ (O1 : txT) (o1 : List Nat) (b : Int32) (r2 : sE), O1.length < 81 → o1 ∈ ordN n → kpC (cRg CHE) 0 68 tXv r r2 → XO r2 O1 → XM n r2 M → txE O M o = (O1, txM M o1) → At 53 ((LEn O1.length).map (Option.map (sVal (uM r2 [Int32.ofNat (ocode o1), b]) al))) [] (tW r2 al cy rest 68 tXv) := by
    intro O1 o1 b r2 hl1 ho1 hkp h1 h2 he
    obtain ⟨m, M', rfl⟩ : ∃ m M', M = m :: M' := by
      cases M with
      | nil => exact absurd h2.1.1 (by simp)
      | cons m M' => exact ⟨m, M', rfl⟩
    have hb4 : M'.length < 4 := by have := h2.1.2; simp at this; omega
    have hmo : m ∈ ordN n := h2.2.1 m List.mem_cons_self
    have h49 : r2.1 (xP 49 3) = Int32.ofNat M'.length := h2.2.2.1
    have hmv : r2.1 (229376 + M'.length) = Int32.ofNat (ocode m) := h2.2.2.2.1
    have hp := mulO_in hn hn5 hmo ho1
    have g := g_segV hFC (r := r2) (vs := [Int32.ofNat (ocode o1), b]) (al := al) (cy := cy) (rest := rest) (by omega) tXv_ok cC_X sPa_nil (oX_cons (uMc (by decide) h49) oX_nil) (allL_ok (allL_ok q_en3 O1.length (by omega)) M'.length hb4) (fun pc L st pa hk1 hp1 => ?_) (fun v pa hk1 => nomatch hk1)
    · exact g
    obtain ⟨rfl, rfl, rfl⟩ := kAt_ok hk1
    have es : List.map (sVal (uM r2 [Int32.ofNat (ocode o1), b]) al) [.inl (.var (nat_lit 819290)), .inl (.var (Nat.add (nat_lit 229376) M'.length)), .inl (.natCast M'.length), .inr (.inr (some (nat_lit 56)))] = ([.int (Int32.ofNat (ocode m)), .int (Int32.ofNat (ocode o1))] : List Value).reverse ++ [.int (Int32.ofNat M'.length), .ref (al 56)] := by
      simp only [List.map_cons, List.map_nil, sVal, uM0, sI_c]
      rw [uMv (show Nat.add 229376 M'.length < 819290 by show 229376 + M'.length < 819290; omega), show Nat.add 229376 M'.length = 229376 + M'.length from rfl, hmv]
      rfl
    rw [es]
    refine hFC.2 71 74 8 3 _ _ _ _ _ ⟨_, _, rfl, rfl⟩ rfl (by show 1 + (1 + 0) ≤ 8; omega) rfl (Or.inl rfl) (c_prod l (by omega) (ordN_in hmo) (ordN_in ho1) (ordN_in hp)) (fun v1 w2 h => ?_)
    obtain ⟨rfl, rfl⟩ := h
    have g2 := g_segU hFC (r := r2) (vs := [Int32.ofNat (ocode o1), b, Int32.ofNat (ocode (mulO m o1))]) (al := al) (cy := cy) (rest := rest) (by omega) tXv_ok cC_X sPa_nil oX_nil (allL_ok (allL_ok q_en4 O1.length (by omega)) M'.length hb4) (fun m0 pc L st pa m hk2 => nomatch hk2) (fun m0 v pa m1 hk2 hp2 hkp2 => ?_)
    · rw [LEn_eq] at g2 ⊢
      simp only [List.map_cons, List.map_nil, sVal, uM2, sI_c] at g2
      exact g2
    rw [Bool.and_eq_true, Bool.and_eq_true] at hk2
    obtain ⟨q1, q2, q3⟩ := hk2
    have hkp3 : kpC (cRg [(229376 + M'.length, 229376 + M'.length), (200708, 200708)]) 0 68 tXv r2 _ := hkp2
    refine ⟨by rw [eqO_ok q1]; rfl, _, kpC_trans hkp (ChE_w (fun x hx => ?_) hkp3), ?_, ?_, eU_c (by first | decide | omega) q3, rfl⟩
    · simp only [List.mem_cons, List.not_mem_nil, or_false] at hx
      rcases hx with rfl | rfl
      · exact ⟨(229376, 229379), by simp [CHE], by show 229376 ≤ 229376 + M'.length; omega, by show 229376 + M'.length ≤ 229379; omega⟩
      · exact ⟨(200708, 200708), by simp [CHE], Nat.le_refl _, Nat.le_refl _⟩
    · rw [he]
      show XO _ O1
      exact XO_st hkp3 (by omega) ⟨by show 217088 < 229376 + M'.length ∨ 229376 + M'.length < 217088; omega, by first | omega | (unfold xP; omega), trivial⟩ (fun i hi => ⟨⟨by show 4096 * 54 + i < 229376 + M'.length ∨ _; omega, by first | omega | (unfold xP; omega), trivial⟩, ⟨by show 4096 * 55 + i < 229376 + M'.length ∨ _; omega, by first | omega | (unfold xP; omega), trivial⟩⟩) h1
    · rw [he]
      show XM n _ (txM (m :: M') o1)
      refine ⟨?_, ?_, ?_, ?_, ?_⟩
      · rw [txM_len]; exact h2.1
      · intro x hx
        rcases List.mem_cons.mp hx with rfl | hx
        · exact hp
        · exact h2.2.1 x (List.mem_cons_of_mem _ hx)
      · refine (kpR hkp3 (vX_49 3 (by omega) (by omega)) ⟨by show 200707 < 229376 + M'.length ∨ _; omega, by first | omega | (unfold xP; omega), trivial⟩).trans ?_
        exact h49
      · refine (isE_ok (b := 0) (by first | decide | omega) q2).trans ?_
        exact uM2
      · exact rwM_kp hkp3 (by omega) (fun i hi => ⟨by show 4096 * 56 + i < 229376 + M'.length ∨ _; omega, by first | omega | (unfold xP; omega), trivial⟩) h2.2.2.2.2
  have loop : ∀ (O1 : txT) (o1 : List Nat) (b : Int32) (r2 : sE), O1.length < 81 → okT O1 → o1 ∈ ordN n → kpC (cRg CHE) 0 68 tXv r r2 → XO r2 O1 → XM n r2 M → txE O M o = txE O1 M o1 → At 12 ((LEn O1.length).map (Option.map (sVal (uM r2 [Int32.ofNat (ocode o1), b]) al))) [] (tW r2 al cy rest 68 tXv) := by
    intro O1
    induction O1 with
    | nil =>
      intro o1 b r2 hl1 _ ho1 hkp h1 h2 he
      have g := g_segV hFC (r := r2) (vs := [Int32.ofNat (ocode o1), b]) (al := al) (cy := cy) (rest := rest) (by omega) tXv_ok cC_X sPa_nil oX_nil q_en1z (fun pc L st pa hk1 hp1 => ?_) (fun v pa hk1 => nomatch hk1)
      · exact g
      obtain ⟨rfl, rfl, rfl⟩ := kAt_ok hk1
      exact tail [] o1 b r2 hl1 ho1 hkp h1 h2 he
    | cons x O1 ih =>
      intro o1 b r2 hl1 hok ho1 hkp h1 h2 he
      obtain ⟨t, p⟩ := x
      have hl2 : O1.length < 80 := by simp at hl1; omega
      have ht : r2.1 (xP 54 0 + O1.length) = Int32.ofNat t := h1.2.1.1
      have ht2 : r2.1 (xP 54 O1.length) = Int32.ofNat t := by rw [← ht]; exact congrArg r2.1 (by unfold xP; omega)
      rcases hok (t, p) List.mem_cons_self with h | h
      · obtain rfl : t = 2 := h
        rw [txE_no (by show (2 : Nat) ≠ 3; decide)] at he
        have g := g_segV hFC (r := r2) (vs := [Int32.ofNat (ocode o1), b]) (al := al) (cy := cy) (rest := rest) (by omega) tXv_ok cC_X sPa_nil (oX_cons (uMc (by unfold xP; omega) ht2) oX_nil) (allL_ok q_en12 O1.length (by omega)) (fun pc L st pa hk1 hp1 => ?_) (fun v pa hk1 => nomatch hk1)
        · exact g
        obtain ⟨rfl, rfl, rfl⟩ := kAt_ok hk1
        exact tail _ o1 b r2 hl1 ho1 hkp h1 h2 he
      · obtain rfl : t = 3 := h
        rw [txE_3] at he
        have hi := invO_in hn hn5 ho1
        have g := g_segV hFC (r := r2) (vs := [Int32.ofNat (ocode o1), b]) (al := al) (cy := cy) (rest := rest) (by omega) tXv_ok cC_X sPa_nil (oX_cons (uMc (by unfold xP; omega) ht2) oX_nil) (allL_ok q_en13 O1.length (by omega)) (fun pc L st pa hk1 hp1 => ?_) (fun v pa hk1 => nomatch hk1)
        · exact g
        obtain ⟨rfl, rfl, rfl⟩ := kAt_ok hk1
        have es : List.map (sVal (uM r2 [Int32.ofNat (ocode o1), b]) al) [.inl (.var (nat_lit 819290))] = ([.int (Int32.ofNat (ocode o1))] : List Value).reverse ++ [] := by
          simp only [List.map_cons, List.map_nil, sVal, uM0]
          rfl
        rw [es]
        refine hFC.2 30 33 9 3 _ _ _ _ _ ⟨_, _, rfl, rfl⟩ rfl (by decide) rfl (Or.inl rfl) (c_turn l (by omega) (ordN_in ho1)) (fun v1 w2 h => ?_)
        obtain ⟨rfl, rfl⟩ := h
        rw [codeI (ordN_in ho1)]
        have h53 : r2.1 (xP 53 0) = Int32.ofNat (Nat.succ O1.length) := h1.1
        have g2 := g_segU hFC (r := r2) (vs := [Int32.ofNat (ocode o1), b, Int32.ofNat (ocode (invO o1))]) (al := al) (cy := cy) (rest := rest) (by omega) tXv_ok cC_X sPa_nil (oX_cons (uMc (by decide) h53) oX_nil) (allL_ok q_en2 O1.length (by omega)) (fun m0 pc L st pa m hk2 hp2 hkp2 => ?_) (fun m0 v pa m1 hk2 => nomatch hk2)
        · rw [LEn_eq] at g2 ⊢
          simp only [List.map_cons, List.map_nil, sVal, uM2] at g2
          exact g2
        rw [Bool.and_eq_true] at hk2
        obtain ⟨rfl, rfl, rfl⟩ := kAt_ok hk2.1
        have e2 : List.map (Option.map (sVal (uM r2 [Int32.ofNat (ocode o1), b, Int32.ofNat (ocode (invO o1))]) al)) [some (.inr (.inr (some (nat_lit 49)))), some (.inl (.var (nat_lit 819291))), some (.inl (.var (nat_lit 819292))), some (.inl (iEx O1.length))] = (LEn O1.length).map (Option.map (sVal (uM (eOf 0 (uM r2 [Int32.ofNat (ocode o1), b, Int32.ofNat (ocode (invO o1))]) m) [Int32.ofNat (ocode (invO o1)), b]) al)) := by
          rw [LEn_eq]
          simp only [List.map_cons, List.map_nil, Option.map_some, sVal, uM1, uM2]
          rw [iEx_eq]
        rw [e2]
        have hkp3 : kpC (cRg [(217088, 217088)]) 0 68 tXv r2 _ := hkp2
        refine ih (invO o1) b _ (by omega) (fun y hy => hok y (List.mem_cons_of_mem _ hy)) hi (kpC_trans hkp (ChE_w (fun x hx => ?_) hkp3)) ⟨eU_c (by first | decide | omega) hk2.2, ?_⟩ (XM_st hkp3 ⟨by first | omega | (unfold xP; omega), trivial⟩ (fun i hi => ⟨by first | omega | (unfold xP; omega), trivial⟩) h2) he
        · rw [List.mem_singleton] at hx
          subst hx
          exact ⟨(217088, 217088), by simp [CHE], Nat.le_refl _, Nat.le_refl _⟩
        · exact rwX_st hkp3 (by omega) (fun i hi => ⟨⟨by first | omega | (unfold xP; omega), trivial⟩, ⟨by first | omega | (unfold xP; omega), trivial⟩⟩) h1.2.2
  have g := g_segV hFC (r := r) (vs := [Int32.ofNat (ocode o)]) (al := al) (cy := cy) (rest := rest) (by omega) tXv_ok cC_X sPa_nil (oX_cons (uMc (by decide) hO.1) oX_nil) (allL_ok q_en0 O.length (by omega)) (fun pc L st pa hk1 hp1 => ?_) (fun v pa hk1 => nomatch hk1)
  · exact g
  obtain ⟨rfl, rfl, rfl⟩ := kAt_ok hk1
  have e1 : List.map (Option.map (sVal (uM r [Int32.ofNat (ocode o)]) al)) [some (.inr (.inr (some (nat_lit 49)))), some (.inl (.var (nat_lit 819290))), some (.inl (.var (nat_lit 819290))), some (.inl (iEx O.length))] = (LEn O.length).map (Option.map (sVal (uM r [Int32.ofNat (ocode o), Int32.ofNat (ocode o)]) al)) := by
    rw [LEn_eq]
    simp only [List.map_cons, List.map_nil, Option.map_some, sVal, uM0]
    rw [iEx_eq]
  rw [e1]
  exact loop O o _ r hk hT ho kpC_rfl hO hM rfl
end RT
