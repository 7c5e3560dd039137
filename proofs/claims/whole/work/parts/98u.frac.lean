/-! 98u: fraction, the model's table; the operation (by wip/whole/mk98u.py) -/
noncomputable def chAB (u : Nat) : Bool := memB [(nat_lit 95), (nat_lit 96)] (Nat.div u (nat_lit 4096))
noncomputable def chFr (u : Nat) : Bool := Bool.or (chMd u) (memB [(nat_lit 95), (nat_lit 96), (nat_lit 97), (nat_lit 98)] (Nat.div u (nat_lit 4096)))
noncomputable def LTw (w : Nat) : sL := [some (.inr (.inr (some (nat_lit 0)))), some (.inr (.inr (some (nat_lit 13)))), some (.inl (.natCast w)), none, none]
noncomputable def LTk (w k j : Nat) : sL := [some (.inr (.inr (some (nat_lit 0)))), some (.inr (.inr (some (nat_lit 13)))), some (.inl (.natCast w)), some (.inl (.natCast k)), some (.inl (.natCast j))]
theorem q_ttE : sEnt [.inr (.inr (some (nat_lit 0))), .inr (.inr (some (nat_lit 13)))] (PG (nat_lit 192)).2.1 (fun L => eqL eqO L [some (.inr (.inr (some (nat_lit 0)))), some (.inr (.inr (some (nat_lit 13)))), none, none, none]) = true := by decide +kernel
theorem q_tt0 : sx PG (nat_lit 100) (nat_lit 24) (PG (nat_lit 192)) (fun pc => Nat.beq pc (nat_lit 2)) (fun pc L st _ m => Bool.and (eqL eqC m []) (kAt (nat_lit 2) [some (.inr (.inr (some (nat_lit 0)))), some (.inr (.inr (some (nat_lit 13)))), none, none, none] [.inr (.inr (some (nat_lit 13))), .inr (.inr (some (nat_lit 0)))] pc L st)) (fun _ _ m => Bool.and (eqL eqC m []) false) (nat_lit 0) [some (.inr (.inr (some (nat_lit 0)))), some (.inr (.inr (some (nat_lit 13)))), none, none, none] [] [] [] = true := by decide +kernel
theorem q_tt1 : allL 18 (fun c => allL 11 (fun n => sBeg (nat_lit 69) (nat_lit 45) (tM c) (memB [(nat_lit 0), (nat_lit 26), (nat_lit 27)]) [((nat_lit 0), (nat_lit 22), .natCast n)] (fun m0 => sx PG (nat_lit 3000) (nat_lit 24) (PG (nat_lit 192)) (fun pc => Nat.beq pc (nat_lit 77)) (fun pc L st _ m => Bool.and (sKC chAB (nat_lit 69) (nat_lit 45) (tM c) (memB [(nat_lit 0), (nat_lit 26), (nat_lit 27)]) m0 m) (Bool.and (kAt (nat_lit 77) [some (.inr (.inr (some (nat_lit 0)))), some (.inr (.inr (some (nat_lit 13)))), some (.inl (.natCast (Nat.mod (Nat.add n (nat_lit 4294967295)) (nat_lit 4294967296)))), some (.inl (.natCast (dOf c))), none] [] pc L st) (allL (dOf c) (fun k => allL (dOf c) (fun j => Bool.and (isLE m (nat_lit 26) (Nat.add (Nat.mul (nat_lit 6) k) j) (.natCast (Bool.rec (motive := fun _ => Nat) (nat_lit 0) (nat_lit 1) (Nat.beq k j)))) (isLE m (nat_lit 27) (Nat.add (Nat.mul (nat_lit 6) k) j) (.natCast (nat_lit 1)))))))) (fun _ _ m => Bool.and (sKC chAB (nat_lit 69) (nat_lit 45) (tM c) (memB [(nat_lit 0), (nat_lit 26), (nat_lit 27)]) m0 m) false) (nat_lit 5) [some (.inr (.inr (some (nat_lit 0)))), some (.inr (.inr (some (nat_lit 13)))), none, none, none] [] [] m0))) = true := by decide +kernel
theorem q_tt2 : allL 18 (fun c => allL 10 (fun w => sBeg (nat_lit 69) (nat_lit 45) (tM c) (memB [(nat_lit 0), (nat_lit 18)]) [] (fun m0 => sx PG (nat_lit 200) (nat_lit 24) (PG (nat_lit 192)) (fun pc => Nat.beq pc (nat_lit 113)) (fun pc L st _ m => Bool.and (eqL eqC m m0) (Bool.and (kAt (nat_lit 113) (LTk w (nat_lit 0) (nat_lit 0)) [.inl (.natCast (nat_lit 0)), .inl (.natCast (nat_lit 0)), .inl (.var (Nat.add (nat_lit 356352) w)), .inr (.inr (some (nat_lit 0)))] pc L st) (true))) (fun _ _ m => Bool.and (eqL eqC m m0) false) (nat_lit 77) (LTw w) [] [] m0))) = true := by decide +kernel
theorem q_tt3 : allL 18 (fun c => allL 10 (fun w => allL (dOf c) (fun k => allL (dOf c) (fun j => sBeg (nat_lit 69) (nat_lit 45) (tM c) (memB [(nat_lit 0), (nat_lit 18)]) [] (fun m0 => sx PG (nat_lit 200) (nat_lit 24) (PG (nat_lit 192)) (fun pc => memB [(nat_lit 113), (nat_lit 128)] pc) (fun pc L st _ m => Bool.and (eqL eqC m m0) (Bool.or (Bool.and (Nat.ble (Nat.succ (Nat.succ j)) (dOf c)) (kAt (nat_lit 113) (LTk w k (Nat.succ j)) [.inl (.natCast (Nat.succ j)), .inl (.natCast k), .inl (.var (Nat.add (nat_lit 356352) w)), .inr (.inr (some (nat_lit 0)))] pc L st)) (Bool.and (Nat.beq (Nat.succ j) (dOf c)) (Bool.or (Bool.and (Nat.ble (Nat.succ (Nat.succ k)) (dOf c)) (kAt (nat_lit 113) (LTk w (Nat.succ k) (nat_lit 0)) [.inl (.natCast (nat_lit 0)), .inl (.natCast (Nat.succ k)), .inl (.var (Nat.add (nat_lit 356352) w)), .inr (.inr (some (nat_lit 0)))] pc L st)) (Bool.and (Nat.beq (Nat.succ k) (dOf c)) (kAt (nat_lit 128) (LTk w (dOf c) (dOf c)) [] pc L st)))))) (fun _ _ m => Bool.and (eqL eqC m m0) false) (nat_lit 116) (LTk w k j) [] [] m0))))) = true := by decide +kernel
theorem q_tt4 : allL 10 (fun w => sBeg (nat_lit 69) (nat_lit 45) tMv (memB [(nat_lit 0), (nat_lit 26), (nat_lit 27), (nat_lit 28), (nat_lit 29)]) [] (fun m0 => sx PG (nat_lit 3000) (nat_lit 24) (PG (nat_lit 192)) (fun pc => Nat.beq pc (nat_lit 77)) (fun pc L st _ m => Bool.and (sKC chAB (nat_lit 69) (nat_lit 45) tMv (memB [(nat_lit 0), (nat_lit 26), (nat_lit 27), (nat_lit 28), (nat_lit 29)]) m0 m) (Bool.and (kAt (nat_lit 77) [some (.inr (.inr (some (nat_lit 0)))), some (.inr (.inr (some (nat_lit 13)))), some (.inl (.natCast (Nat.mod (Nat.add w (nat_lit 4294967295)) (nat_lit 4294967296)))), some (.inl (.natCast (nat_lit 36))), none] [] pc L st) (allL (nat_lit 36) (fun i => Bool.and (isLE m (nat_lit 26) i (.var (Nat.add (nat_lit 397312) i))) (isLE m (nat_lit 27) i (.var (Nat.add (nat_lit 401408) i))))))) (fun _ _ m => Bool.and (sKC chAB (nat_lit 69) (nat_lit 45) tMv (memB [(nat_lit 0), (nat_lit 26), (nat_lit 27), (nat_lit 28), (nat_lit 29)]) m0 m) false) (nat_lit 128) (LTw w) [] [] m0)) = true := by decide +kernel
theorem q_tt5 : sx PG (nat_lit 100) (nat_lit 24) (PG (nat_lit 192)) (fun _ => false) (fun _ _ _ _ m => Bool.and (eqL eqC m []) false) (fun v _ m => Bool.and (eqL eqC m []) (eqO v none)) (nat_lit 77) (LTw (nat_lit 4294967295)) [] [] [] = true := by decide +kernel
theorem mem4 {a b c d u : Nat} (h : memB [a, b, c, d] u = true) : u = a ∨ u = b ∨ u = c ∨ u = d := by
  have h2 : Bool.or (Nat.beq a u) (Bool.or (Nat.beq b u) (Bool.or (Nat.beq c u) (Bool.or (Nat.beq d u) false))) = true := h
  simp only [Bool.or_eq_true] at h2
  rcases h2 with h2 | h2 | h2 | h2 | h2
  · exact Or.inl (Nat.eq_of_beq_eq_true h2).symm
  · exact Or.inr (Or.inl (Nat.eq_of_beq_eq_true h2).symm)
  · exact Or.inr (Or.inr (Or.inl (Nat.eq_of_beq_eq_true h2).symm))
  · exact Or.inr (Or.inr (Or.inr (Nat.eq_of_beq_eq_true h2).symm))
  · exact nomatch h2
theorem mem2 {a b u : Nat} (h : memB [a, b] u = true) : u = a ∨ u = b := by
  have h2 : Bool.or (Nat.beq a u) (Bool.or (Nat.beq b u) false) = true := h
  simp only [Bool.or_eq_true] at h2
  rcases h2 with h2 | h2 | h2
  · exact Or.inl (Nat.eq_of_beq_eq_true h2).symm
  · exact Or.inr (Nat.eq_of_beq_eq_true h2).symm
  · exact nomatch h2
theorem mem4_mk {a b c d u : Nat} (h : u = a ∨ u = b ∨ u = c ∨ u = d) : memB [a, b, c, d] u = true := by
  show Bool.or (Nat.beq a u) (Bool.or (Nat.beq b u) (Bool.or (Nat.beq c u) (Bool.or (Nat.beq d u) false))) = true
  simp only [Bool.or_eq_true]
  rcases h with rfl | rfl | rfl | rfl
  · exact Or.inl (Nat.beq_refl _)
  · exact Or.inr (Or.inl (Nat.beq_refl _))
  · exact Or.inr (Or.inr (Or.inl (Nat.beq_refl _)))
  · exact Or.inr (Or.inr (Or.inr (Or.inl (Nat.beq_refl _))))
theorem b_f {b : Bool} (h : b = true → False) : b = false := by
  cases b
  · rfl
  · exact absurd rfl (fun q => h q)
theorem fr_AB {u : Nat} (hu : chFr u = false) : chAB u = false := b_f (fun hh => by
  have h2 := (Bool.or_eq_false_iff.mp hu).2
  have h3 := mem2 hh
  have h4 : memB [95, 96, 97, 98] (u / 4096) = true := mem4_mk (by
    have h5 : u / 4096 = 95 ∨ u / 4096 = 96 := h3
    omega)
  exact nomatch h2.symm.trans h4)
theorem fr_Su {k j u : Nat} (hk : k < 6) (hj : j < 6) (hu : chFr u = false) : chSu k j u = false := b_f (fun hh => by
  obtain ⟨h1, h2⟩ := Bool.or_eq_false_iff.mp hu
  rcases Bool.or_eq_true_iff.mp hh with h3 | h3
  · exact nomatch h1.symm.trans h3
  · have h4 : memB [95, 96, 97, 98] (u / 4096) = true := mem4_mk (by
      rcases Bool.or_eq_true_iff.mp h3 with h5 | h5
      · have h6 : u = 397312 + (6 * k + j) := Nat.eq_of_beq_eq_true h5
        omega
      · have h6 : u = 401408 + (6 * k + j) := Nat.eq_of_beq_eq_true h5
        omega)
    exact nomatch h2.symm.trans h4)
theorem kp_Fr {r r1 : sE} (h : kpC chFr 69 45 tMv r r1) : kp 69 45 tMv r r1 := kpC_weak (Ch2 := scQ) (fun u hu => b_f (fun hh => by
  rcases Bool.or_eq_true_iff.mp hh with h3 | h3
  · rcases Bool.or_eq_true_iff.mp h3 with hh | hh
    · have := Nat.eq_of_beq_eq_true hh
      subst this
      exact absurd hu (by decide +kernel)
    · have := Nat.eq_of_beq_eq_true hh
      subst this
      exact absurd hu (by decide +kernel)
  · have key : ∀ i, (i = 95 ∨ i = 96 ∨ i = 97 ∨ i = 98) → u / 4096 = i → scQ u = true := fun i hi hd => by
      have hd2 : Nat.div u (nat_lit 4096) = i := hd
      unfold scQ
      rw [hd2]
      rcases hi with rfl | rfl | rfl | rfl <;> rfl
    have h5 : u / 4096 = 95 ∨ u / 4096 = 96 ∨ u / 4096 = 97 ∨ u / 4096 = 98 := mem4 h3
    exact nomatch hu.symm.trans (key _ h5 rfl))) h
/-- the tables: what is there, and what is there of the next one -/
def tabN (d K J : Nat) (V : Nat → zR) (r : sE) : Prop := ∀ k j, k < d → j < d → (k < K ∨ (k = K ∧ j < J)) → r.2 (397312 + (6 * k + j)) = Int64.ofInt (getZ (V k) j).1 ∧ r.2 (401408 + (6 * k + j)) = Int64.ofInt (getZ (V k) j).2
theorem tabN_Su {d K J k j : Nat} {V : Nat → zR} {r r1 : sE} (hd : d ≤ 6) (hk : k < d) (hj : j < d) (hK : ¬ (k < K ∨ (k = K ∧ j < J))) (h : kpC (chSu k j) 69 45 tMv r r1) (hr : tabN d K J V r) : tabN d K J V r1 := fun k1 j1 h1 h2 h3 => by
  obtain ⟨-, ⟨l1, c1⟩, l2, c2⟩ := tab_L (i := 6 * k1 + j1) (by omega)
  have n1 : chSu k j (397312 + (6 * k1 + j1)) = false := b_f (fun hh => by
    rcases Bool.or_eq_true_iff.mp hh with h5 | h5
    · exact nomatch c1.symm.trans h5
    · rcases Bool.or_eq_true_iff.mp h5 with h5 | h5
      · have h6 : 397312 + (6 * k1 + j1) = 397312 + (6 * k + j) := Nat.eq_of_beq_eq_true h5
        have : k1 = k := by omega
        have : j1 = j := by omega
        subst k1 j1
        exact hK h3
      · have h6 : 397312 + (6 * k1 + j1) = 401408 + (6 * k + j) := Nat.eq_of_beq_eq_true h5
        omega)
  have n2 : chSu k j (401408 + (6 * k1 + j1)) = false := b_f (fun hh => by
    rcases Bool.or_eq_true_iff.mp hh with h5 | h5
    · exact nomatch c2.symm.trans h5
    · rcases Bool.or_eq_true_iff.mp h5 with h5 | h5
      · have h6 : 401408 + (6 * k1 + j1) = 397312 + (6 * k + j) := Nat.eq_of_beq_eq_true h5
        omega
      · have h6 : 401408 + (6 * k1 + j1) = 401408 + (6 * k + j) := Nat.eq_of_beq_eq_true h5
        have : k1 = k := by omega
        have : j1 = j := by omega
        subst k1 j1
        exact hK h3)
  exact ⟨(h.2.1 _ l1 n1).trans (hr k1 j1 h1 h2 h3).1, (h.2.1 _ l2 n2).trans (hr k1 j1 h1 h2 h3).2⟩
theorem rowM_Su {d k1 k j : Nat} {v : zR} {r r1 : sE} (hd : d ≤ 6) (hk1 : k1 < 6) (hk : k < 6) (hj : j < 6) (h : kpC (chSu k j) 69 45 tMv r r1) (hr : rowM k1 d v r) : rowM k1 d v r1 := fun m hm => by
  obtain ⟨⟨⟨l1, c1⟩, l2, c2⟩, -⟩ := tab_L (i := 6 * k1 + m) (by omega)
  have n1 : chSu k j (389120 + (6 * k1 + m)) = false := b_f (fun hh => by
    rcases Bool.or_eq_true_iff.mp hh with h5 | h5
    · exact nomatch c1.symm.trans h5
    · rcases Bool.or_eq_true_iff.mp h5 with h5 | h5
      · have h6 : 389120 + (6 * k1 + m) = 397312 + (6 * k + j) := Nat.eq_of_beq_eq_true h5
        omega
      · have h6 : 389120 + (6 * k1 + m) = 401408 + (6 * k + j) := Nat.eq_of_beq_eq_true h5
        omega)
  have n2 : chSu k j (393216 + (6 * k1 + m)) = false := b_f (fun hh => by
    rcases Bool.or_eq_true_iff.mp hh with h5 | h5
    · exact nomatch c2.symm.trans h5
    · rcases Bool.or_eq_true_iff.mp h5 with h5 | h5
      · have h6 : 393216 + (6 * k1 + m) = 397312 + (6 * k + j) := Nat.eq_of_beq_eq_true h5
        omega
      · have h6 : 393216 + (6 * k1 + m) = 401408 + (6 * k + j) := Nat.eq_of_beq_eq_true h5
        omega)
  exact ⟨(h.2.1 _ l1 n1).trans (hr m hm).1, (h.2.1 _ l2 n2).trans (hr m hm).2⟩
theorem q_wdV : allL 10 (fun w => Bool.and (isV (nat_lit 69) (nat_lit 45) tMv (Nat.add (nat_lit 356352) w)) (Bool.not (chFr (Nat.add (nat_lit 356352) w)))) = true := by decide +kernel
theorem q_n4V : Bool.and (isV (nat_lit 69) (nat_lit 45) tMv (nat_lit 282628)) (Bool.not (chFr (nat_lit 282628))) = true := by decide +kernel
theorem LTk_eq {r : sE} {al : Nat → Nat} {w k j : Nat} : (LTk w k j).map (Option.map (sVal r al)) = [some (.ref (al 0)), some (.ref (al 13)), some (.int (Int32.ofNat w)), some (.int (Int32.ofNat k)), some (.int (Int32.ofNat j))] := by
  simp only [LTk, List.map_cons, List.map_nil, Option.map_some, sVal, sI_c]
theorem LTw_eq {r : sE} {al : Nat → Nat} {w : Nat} : (LTw w).map (Option.map (sVal r al)) = [some (.ref (al 0)), some (.ref (al 13)), some (.int (Int32.ofNat w)), none, none] := by
  simp only [LTw, List.map_cons, List.map_nil, Option.map_some, Option.map_none, sVal, sI_c]
theorem wk3 {k : Nat} {At : gAt} (hLD : gLD k At) {pc : Nat} {a0 a1 a2 b3 b4 : Option Value} {SV : List Value} {w : va_W} (h : At pc [a0, a1, a2, none, none] SV w) : At pc [a0, a1, a2, b3, b4] SV w := hLD.2.2 pc _ [a0, a1, a2, none, none] _ _ rfl (fun j v hv => by
  rcases j with _ | _ | _ | _ | _ | j
  all_goals first | exact hv | exact nomatch hv) h
/-- one letter of the word: the tables go on -/
theorem fr_turn {l : Launch} {D : va_G} {cy : Nat → ClassId} {al : Nat → Nat} {rest : va_W} {c w s : Nat} {V : Nat → zR} {r : sE} {Rt : Option Value → va_W → Prop} {At : gAt} (hFC : gFC l D cy al 192 24 Rt At) (hLD : gLD 192 At) (hc : c < 18) (hw : w < 10) (hs1 : 1 ≤ s) (hs : s < nOf c) (hcc : cC 69 45 (tM c) r) (hn4 : r.1 (mP 0 4) = Int32.ofNat (dOf c)) (hws : r.1 (356352 + w) = Int32.ofNat s) (hV : ∀ k, k < dOf c → (V k).length = dOf c ∧ okS c s (V k)) (hM : ∀ k, k < dOf c → rowM k (dOf c) (V k) r) (hK : ∀ r2, kpC chFr 69 45 tMv r r2 → (∀ k, k < dOf c → rowM k (dOf c) (goL c s (V k) 0 (zero (dOf c))) r2) → At 77 [some (.ref (al 0)), some (.ref (al 13)), some (.int (Int32.ofNat ((w + 4294967295) % 4294967296))), none, none] [] (tW r2 al cy rest 45 tMv)) : At 77 [some (.ref (al 0)), some (.ref (al 13)), some (.int (Int32.ofNat w)), none, none] [] (tW r al cy rest 45 tMv) := by
  obtain ⟨d1, d6⟩ := (cd_tab c hc).1
  obtain ⟨v1, v2⟩ := Bool.and_eq_true_iff.mp (allL_ok q_wdV w hw)
  obtain ⟨v3, v4⟩ := Bool.and_eq_true_iff.mp q_n4V
  have hws2 : ∀ r', kpC chFr 69 45 tMv r r' → r'.1 (356352 + w) = Int32.ofNat s := fun r' h => (h.1 _ v1 (b_not v2)).trans hws
  have hn42 : ∀ r', kpC chFr 69 45 tMv r r' → r'.1 (mP 0 4) = Int32.ofNat (dOf c) := fun r' h => (h.1 _ v3 (b_not v4)).trans hn4
  have stk : ∀ (r' : sE) (k j : Nat), kpC chFr 69 45 tMv r r' → List.map (sVal r' al) [.inl (.natCast j), .inl (.natCast k), .inl (.var (Nat.add (nat_lit 356352) w)), .inr (.inr (some (nat_lit 0)))] = ([.ref (al 0), .int (Int32.ofNat s), .int (Int32.ofNat k), .int (Int32.ofNat j)] : List Value).reverse ++ [] := fun r' k j h => by
    have e : sI r' (.var (Nat.add (nat_lit 356352) w)) = Int32.ofNat s := by rw [sI_v]; exact hws2 r' h
    simp only [List.map_cons, List.map_nil, sVal, sI_c, e]
    rfl
  -- one number
  have one : ∀ (k j : Nat) (r' : sE), k < dOf c → j < dOf c → kpC chFr 69 45 tMv r r' → (∀ k, k < dOf c → rowM k (dOf c) (V k) r') → tabN (dOf c) k j (fun k => goL c s (V k) 0 (zero (dOf c))) r' → (∀ r2, kpC chFr 69 45 tMv r r2 → (∀ k, k < dOf c → rowM k (dOf c) (V k) r2) → tabN (dOf c) k (j + 1) (fun k => goL c s (V k) 0 (zero (dOf c))) r2 → At 116 [some (.ref (al 0)), some (.ref (al 13)), some (.int (Int32.ofNat w)), some (.int (Int32.ofNat k)), some (.int (Int32.ofNat j))] [] (tW r2 al cy rest 45 tMv)) → At 113 [some (.ref (al 0)), some (.ref (al 13)), some (.int (Int32.ofNat w)), some (.int (Int32.ofNat k)), some (.int (Int32.ofNat j))] (([.ref (al 0), .int (Int32.ofNat s), .int (Int32.ofNat k), .int (Int32.ofNat j)] : List Value).reverse ++ []) (tW r' al cy rest 45 tMv) := fun k j r' hk hj h1 h2 h3 hA => by
    obtain ⟨hl, hok⟩ := hV k hk
    obtain ⟨hg, he⟩ := hok.2 j hj
    refine hFC.2 113 116 193 23 _ _ _ _ _ ⟨_, _, rfl, rfl⟩ rfl (by decide) rfl (gRecv_t (by omega) rfl rfl) (c_suM l (by omega) hc hs1 hs hk hj (kpM_cC hc (kp_Fr h1) hcc) (hn42 r' h1) hl (h2 k hk) hg) (fun v1 w2 h => ?_)
    obtain ⟨rfl, r2, k1, k2, k3, rfl⟩ := h
    refine hA r2 (kpC_trans h1 (kpC_weak (fun u hu => fr_Su (by omega) (by omega) hu) k1)) (fun k' hk' => rowM_Su d6 (by omega) (by omega) (by omega) k1 (h2 k' hk')) (fun k' j' q1 q2 q3 => ?_)
    by_cases he2 : k' = k ∧ j' = j
    · obtain ⟨rfl, rfl⟩ := he2
      show r2.2 _ = Int64.ofInt (getZ (goL c s (V k') 0 (zero (dOf c))) j').1 ∧ r2.2 _ = Int64.ofInt (getZ (goL c s (V k') 0 (zero (dOf c))) j').2
      rw [he]
      exact ⟨k2, k3⟩
    · exact tabN_Su d6 hk hj (by omega) k1 h3 k' j' q1 q2 (by omega)
  -- all
  have all : ∀ (q k : Nat), k + (q + 1) = dOf c → ∀ (p j : Nat) (r' : sE), j + (p + 1) = dOf c → kpC chFr 69 45 tMv r r' → (∀ k, k < dOf c → rowM k (dOf c) (V k) r') → tabN (dOf c) k j (fun k => goL c s (V k) 0 (zero (dOf c))) r' → At 113 [some (.ref (al 0)), some (.ref (al 13)), some (.int (Int32.ofNat w)), some (.int (Int32.ofNat k)), some (.int (Int32.ofNat j))] (([.ref (al 0), .int (Int32.ofNat s), .int (Int32.ofNat k), .int (Int32.ofNat j)] : List Value).reverse ++ []) (tW r' al cy rest 45 tMv) := by
    intro q
    induction q with
    | zero =>
      intro k hq p
      induction p with
      | zero =>
        intro j r' hp h1 h2 h3
        refine one k j r' (by omega) (by omega) h1 h2 h3 (fun r2 g1 g2 g3 => ?_)
        have g := g_segS hFC (r := r2) (al := al) (cy := cy) (rest := rest) (tM_ok hc) (kpM_cC hc (kp_Fr g1) hcc) sPa_nil oM_nil (allL_ok (allL_ok (allL_ok (allL_ok q_tt3 c hc) w hw) k (by omega)) j (by omega)) (fun pc L st pa hk hp => ?_) (fun v pa hk => nomatch hk)
        · rw [LTk_eq] at g
          exact g
        rw [Bool.or_eq_true, Bool.and_eq_true, Bool.and_eq_true, Bool.or_eq_true, Bool.and_eq_true, Bool.and_eq_true] at hk
        rcases hk with ⟨f1, f2⟩ | ⟨f0, ⟨f1, f2⟩ | ⟨f1, f2⟩⟩
        · have : j + 2 ≤ dOf c := Nat.le_of_ble_eq_true f1
          omega
        · have : k + 2 ≤ dOf c := Nat.le_of_ble_eq_true f1
          omega
        · obtain ⟨rfl, rfl, rfl⟩ := kAt_ok f2
          rw [LTk_eq]
          refine wk3 hLD ?_
          have g4 := g_segH hFC (r := r2) (al := al) (cy := cy) (rest := rest) (by omega) tMv_ok (cC_M _) sPa_nil oM_nil (allL_ok q_tt4 w hw) (fun m0 pc L st pa m hk3 hp hk4 hH => ?_) (fun m0 v pa m hk => nomatch hk)
          · rw [LTw_eq] at g4
            exact g4
          rw [Bool.and_eq_true] at hk3
          obtain ⟨rfl, rfl, rfl⟩ := kAt_ok hk3.1
          simp only [List.map_cons, List.map_nil, Option.map_some, Option.map_none, sVal, sI_c]
          refine wk3 hLD (hK _ (kpC_trans g1 (kpC_weak (fun u hu => fr_AB hu) hk4)) (fun k' hk' m' hm' => ?_))
          obtain ⟨e1, e2⟩ := Bool.and_eq_true_iff.mp (allL_ok hk3.2 (6 * k' + m') (show 6 * k' + m' < 36 by omega))
          obtain ⟨t1, t2⟩ := g3 k' m' hk' hm' (by omega)
          constructor
          · refine Eq.trans (isLE_ok (b := 69) (r := r2) (by first | decide | omega) e1) ?_
            simp only [sJ, sD_v]
            exact t1
          · refine Eq.trans (isLE_ok (b := 69) (r := r2) (by first | decide | omega) e2) ?_
            simp only [sJ, sD_v]
            exact t2
      | succ p ihp =>
        intro j r' hp h1 h2 h3
        refine one k j r' (by omega) (by omega) h1 h2 h3 (fun r2 g1 g2 g3 => ?_)
        have g := g_segS hFC (r := r2) (al := al) (cy := cy) (rest := rest) (tM_ok hc) (kpM_cC hc (kp_Fr g1) hcc) sPa_nil oM_nil (allL_ok (allL_ok (allL_ok (allL_ok q_tt3 c hc) w hw) k (by omega)) j (by omega)) (fun pc L st pa hk hp => ?_) (fun v pa hk => nomatch hk)
        · rw [LTk_eq] at g
          exact g
        rw [Bool.or_eq_true, Bool.and_eq_true, Bool.and_eq_true, Bool.or_eq_true, Bool.and_eq_true, Bool.and_eq_true] at hk
        rcases hk with ⟨f1, f2⟩ | ⟨f0, -⟩
        · obtain ⟨rfl, rfl, rfl⟩ := kAt_ok f2
          rw [LTk_eq]
          refine (congrArg (fun st => At 113 _ st _) (stk r2 k (Nat.succ j) g1)).mpr ?_
          exact ihp (j + 1) r2 (by omega) g1 g2 g3
        · have : j + 1 = dOf c := Nat.eq_of_beq_eq_true f0
          omega
    | succ q ihq =>
      intro k hq p
      induction p with
      | zero =>
        intro j r' hp h1 h2 h3
        refine one k j r' (by omega) (by omega) h1 h2 h3 (fun r2 g1 g2 g3 => ?_)
        have g := g_segS hFC (r := r2) (al := al) (cy := cy) (rest := rest) (tM_ok hc) (kpM_cC hc (kp_Fr g1) hcc) sPa_nil oM_nil (allL_ok (allL_ok (allL_ok (allL_ok q_tt3 c hc) w hw) k (by omega)) j (by omega)) (fun pc L st pa hk hp => ?_) (fun v pa hk => nomatch hk)
        · rw [LTk_eq] at g
          exact g
        rw [Bool.or_eq_true, Bool.and_eq_true, Bool.and_eq_true, Bool.or_eq_true, Bool.and_eq_true, Bool.and_eq_true] at hk
        rcases hk with ⟨f1, f2⟩ | ⟨f0, ⟨f1, f2⟩ | ⟨f1, f2⟩⟩
        · have : j + 2 ≤ dOf c := Nat.le_of_ble_eq_true f1
          omega
        · obtain ⟨rfl, rfl, rfl⟩ := kAt_ok f2
          rw [LTk_eq]
          refine (congrArg (fun st => At 113 _ st _) (stk r2 (Nat.succ k) 0 g1)).mpr ?_
          exact ihq (k + 1) (by omega) (dOf c - 1) 0 r2 (by omega) g1 g2 (fun k' j' q1 q2 q3 => g3 k' j' q1 q2 (by omega))
        · have : k + 1 = dOf c := Nat.eq_of_beq_eq_true f1
          omega
      | succ p ihp =>
        intro j r' hp h1 h2 h3
        refine one k j r' (by omega) (by omega) h1 h2 h3 (fun r2 g1 g2 g3 => ?_)
        have g := g_segS hFC (r := r2) (al := al) (cy := cy) (rest := rest) (tM_ok hc) (kpM_cC hc (kp_Fr g1) hcc) sPa_nil oM_nil (allL_ok (allL_ok (allL_ok (allL_ok q_tt3 c hc) w hw) k (by omega)) j (by omega)) (fun pc L st pa hk hp => ?_) (fun v pa hk => nomatch hk)
        · rw [LTk_eq] at g
          exact g
        rw [Bool.or_eq_true, Bool.and_eq_true, Bool.and_eq_true, Bool.or_eq_true, Bool.and_eq_true, Bool.and_eq_true] at hk
        rcases hk with ⟨f1, f2⟩ | ⟨f0, -⟩
        · obtain ⟨rfl, rfl, rfl⟩ := kAt_ok f2
          rw [LTk_eq]
          refine (congrArg (fun st => At 113 _ st _) (stk r2 k (Nat.succ j) g1)).mpr ?_
          exact ihp (j + 1) r2 (by omega) g1 g2 g3
        · have : j + 1 = dOf c := Nat.eq_of_beq_eq_true f0
          omega
  have g := g_segS hFC (r := r) (al := al) (cy := cy) (rest := rest) (tM_ok hc) hcc sPa_nil oM_nil (allL_ok (allL_ok q_tt2 c hc) w hw) (fun pc L st pa hk hp => ?_) (fun v pa hk => nomatch hk)
  · rw [LTw_eq] at g
    exact g
  rw [Bool.and_eq_true] at hk
  obtain ⟨rfl, rfl, rfl⟩ := kAt_ok hk.1
  rw [LTk_eq]
  refine (congrArg (fun st => At 113 _ st _) (stk r 0 0 kpC_rfl)).mpr ?_
  exact all (dOf c - 1) 0 (by omega) (dOf c - 1) 0 r (by omega) kpC_rfl hM (fun k' j' q1 q2 q3 => by omega)
theorem q_un : rg 0 1 1 1 ∧ frA 0 1 1 1 = 1 ∧ frB 0 1 1 1 = 1 := ⟨⟨by decide, by decide, by decide⟩, by decide +kernel, by decide +kernel⟩
theorem unit_get {k d j : Nat} (hk : k < d) : getZ (unit k d) j = if j = k then (1, 1) else (0, 1) := by
  unfold unit
  rw [adR_get _ _ _ (by rw [zero_len]; exact hk), zero_get, zero_get, q_un.2.1, q_un.2.2]
theorem lfI_kp {r r1 : sE} (h : kp 69 45 tMv r r1) (hl : lfI r) : lfI r1 := fun i hi => by
  refine (h.1 _ ?_ ?_).trans (hl i hi)
  · have := allL_ok (show allL 5 (fun i => isV (nat_lit 69) (nat_lit 45) tMv (Nat.add (mP 19 1) i)) = true by decide +kernel) i hi
    exact this
  · have := allL_ok (show allL 5 (fun i => Bool.not (scQ (Nat.add (mP 19 1) i))) = true by decide +kernel) i hi
    exact not_t this
/-- the model's tables at the end of a word -/
theorem c_ttM (l : Launch) {D : va_G} {cy : Nat → ClassId} {al : Nat → Nat} {rest : va_W} {r : sE} {c dd : Nat} {o : List Nat} (hdd : 24 ≤ dd) (hc : c < 18) (hcc : cC 69 45 (tM c) r) (hn1 : r.1 (mP 0 1) = Int32.ofNat (nOf c)) (hn4 : r.1 (mP 0 4) = Int32.ofNat (dOf c)) (ho : o ∈ ordN (nOf c)) (hO : hasO r 13 o) : gMet l D cy al dd 192 (tW r al cy rest 45 tMv) [.ref (al 0), .ref (al 13)] (fun x w => x = none ∧ ∃ r1, kpC chW 69 45 tMv r r1 ∧ lfI r1 ∧ (∀ k, k < dOf c → rowM k (dOf c) (Tw c k (wdO o)) r1) ∧ w = tW r1 al cy rest 45 tMv) := by
  refine gMet_up hdd ?_
  obtain ⟨d1, d6⟩ := (cd_tab c hc).1
  obtain ⟨n1, n5⟩ := (cd_tab c hc).2
  have hO2 : o ∈ ORDS := List.mem_of_mem_take ho
  have hlen := wdO_len hO2
  have hl10 : lenO o ≤ 10 := Nat.le_of_ble_eq_true (lAll_ok lenO_tab o hO2)
  have key := gMet_ofD (l := l) (D := D) (cy := cy) (al := al) (d := 24) (k := 192) (w := tW r al cy rest 45 tMv) (r := r) (G := fun x w => x = none ∧ ∃ r1, kpC chW 69 45 tMv r r1 ∧ lfI r1 ∧ (∀ k, k < dOf c → rowM k (dOf c) (Tw c k (wdO o)) r1) ∧ w = tW r1 al cy rest 45 tMv) q_ttE (fun At hFC hLD => ?_)
  · exact key
  refine g_pure hFC (al := al) (r := r) (w := tW r al cy rest 45 tMv) sPa_nil q_tt0 (fun pc L st hk => ?_) (fun v hk => nomatch hk)
  obtain ⟨rfl, rfl, rfl⟩ := kAt_ok hk
  have e0 : List.map (sVal r al) [.inr (.inr (some (nat_lit 13))), .inr (.inr (some (nat_lit 0)))] = ([.ref (al 0), .ref (al 13)] : List Value).reverse ++ [] := rfl
  rw [e0]
  refine hFC.2 2 5 169 23 _ _ _ _ _ ⟨_, _, rfl, rfl⟩ rfl (by decide) rfl (gRecv_t (by omega) rfl rfl) (c_twM l (by omega) n1 n5 hn1 ho hO) (fun v1 w2 h => ?_)
  obtain ⟨r1, k1, ⟨⟨k2, k3⟩, kl⟩, rfl, rfl⟩ := h
  obtain ⟨v3, v4⟩ := Bool.and_eq_true_iff.mp q_n4V
  have hn41 : r1.1 (mP 0 4) = Int32.ofNat (dOf c) := (k1.1 _ v3 (by decide +kernel)).trans hn4
  have hcc1 := kpW_cC hc k1 hcc
  have fin : ∀ r', kpC chFr 69 45 tMv r1 r' → (∀ k, k < dOf c → rowM k (dOf c) (Tw c k (wdO o)) r') → At 77 [some (.ref (al 0)), some (.ref (al 13)), some (.int (Int32.ofNat 4294967295)), none, none] [] (tW r' al cy rest 45 tMv) := fun r' h1 h2 => by
    have g := g_pure hFC (al := al) (r := r') (w := tW r' al cy rest 45 tMv) sPa_nil q_tt5 (fun pc L st hk => nomatch hk) (fun v hk => ?_)
    · rw [LTw_eq] at g
      exact g
    rw [eqO_ok hk]
    exact ⟨rfl, r', kpC_trans k1 (kpW_of (kp_Fr h1)), lfI_kp (kp_Fr h1) kl, h2, rfl⟩
  have turn : ∀ (i : Nat) (r' : sE), i < lenO o → kpC chFr 69 45 tMv r1 r' → (∀ k, k < dOf c → rowM k (dOf c) (Tw c k ((wdO o).drop (i + 1))) r') → (∀ r2, kpC chFr 69 45 tMv r1 r2 → (∀ k, k < dOf c → rowM k (dOf c) (Tw c k ((wdO o).drop i)) r2) → At 77 [some (.ref (al 0)), some (.ref (al 13)), some (.int (Int32.ofNat ((i + 4294967295) % 4294967296))), none, none] [] (tW r2 al cy rest 45 tMv)) → At 77 [some (.ref (al 0)), some (.ref (al 13)), some (.int (Int32.ofNat i)), none, none] [] (tW r' al cy rest 45 tMv) := fun i r' hi h1 h2 hK => by
    have hd := drop_nth (l := wdO o) (i := i) (by omega)
    obtain ⟨s1, sn⟩ := wd_in n5 ho hi
    obtain ⟨v1, v2⟩ := Bool.and_eq_true_iff.mp (allL_ok q_wdV i (by omega))
    refine fr_turn hFC hLD hc (by omega) s1 sn (kpM_cC hc (kp_Fr h1) hcc1) ((h1.1 _ v3 (b_not v4)).trans hn41) ((h1.1 _ v1 (b_not v2)).trans ((congrArg r1.1 (show 356352 + i = mP 18 i by unfold mP; omega)).trans (k3 i hi))) (fun k hk => ⟨Tw_len _, ?_⟩) h2 (fun r2 q1 q2 => hK r2 (kpC_trans h1 q1) (fun k hk => ?_))
    · have hg := goodW_drop _ (q_fr hc ho hk) i
      rw [hd] at hg
      exact (goodW_tl hg).2
    · rw [hd]
      exact q2 k hk
  have loop : ∀ (i : Nat) (r' : sE), i < lenO o → kpC chFr 69 45 tMv r1 r' → (∀ k, k < dOf c → rowM k (dOf c) (Tw c k ((wdO o).drop (i + 1))) r') → At 77 [some (.ref (al 0)), some (.ref (al 13)), some (.int (Int32.ofNat i)), none, none] [] (tW r' al cy rest 45 tMv) := by
    intro i
    induction i with
    | zero =>
      intro r' hi h1 h2
      exact turn 0 r' hi h1 h2 (fun r2 q1 q2 => fin r2 q1 q2)
    | succ i ih =>
      intro r' hi h1 h2
      refine turn (i + 1) r' hi h1 h2 (fun r2 q1 q2 => ?_)
      rw [show (i + 1 + 4294967295) % 4294967296 = i by omega]
      exact ih r2 (by omega) q1 q2
  have g := g_segH hFC (r := r1) (al := al) (cy := cy) (rest := rest) (by omega) (tM_ok hc) hcc1 sPa_nil (oM_cons (by rw [sI_c]; exact k2) oM_nil) (allL_ok (allL_ok q_tt1 c hc) (lenO o) (by omega)) (fun m0 pc L st pa m hk3 hp hk4 hH => ?_) (fun m0 v pa m hk => nomatch hk)
  · exact g
  rw [Bool.and_eq_true] at hk3
  obtain ⟨rfl, rfl, rfl⟩ := kAt_ok hk3.1
  simp only [List.map_cons, List.map_nil, Option.map_some, Option.map_none, sVal, sI_c]
  refine wk3 hLD ?_
  have hM0 : ∀ k, k < dOf c → rowM k (dOf c) (unit k (dOf c)) (eOf 69 r1 m) := fun k hk j hj => by
    obtain ⟨e1, e2⟩ := Bool.and_eq_true_iff.mp (allL_ok (allL_ok hk3.2 k hk) j hj)
    rw [unit_get hk]
    constructor
    · refine Eq.trans (isLE_ok (b := 69) (r := r1) (by show 6 * k + j < 4096; omega) e1) ?_
      simp only [sJ, sD_c, J_nat]
      by_cases h : j = k
      · subst h
        rw [if_pos rfl, Nat.beq_refl]
        rfl
      · rw [if_neg h, b_f (fun q => h (Nat.eq_of_beq_eq_true q).symm)]
        rfl
    · refine Eq.trans (isLE_ok (b := 69) (r := r1) (by show 6 * k + j < 4096; omega) e2) ?_
      simp only [sJ, sD_c, J_nat]
      by_cases h : j = k
      · rw [if_pos h]
        rfl
      · rw [if_neg h]
        rfl
  have kp2 : kpC chFr 69 45 tMv r1 (eOf 69 r1 m) := kpC_weak (fun u hu => fr_AB hu) hk4
  cases hn : lenO o with
  | zero =>
    have e : wdO o = [] := List.eq_nil_of_length_eq_zero (hlen.trans hn)
    have := fin _ kp2 (by rw [e]; exact hM0)
    exact this
  | succ n =>
    have e : (wdO o).drop (n + 1) = [] := List.drop_of_length_le (by omega)
    have := loop n _ (by omega) kp2 (by rw [e]; exact hM0)
    have e5 : Nat.mod (Nat.add (n + 1) (nat_lit 4294967295)) (nat_lit 4294967296) = n := by
      show (n + 1 + 4294967295) % 4294967296 = n
      omega
    rw [e5]
    exact this
theorem q_fmE : allL 4 (fun q => allL 6 (fun k => allL 6 (fun j => allL 2 (fun p => sEnt [.inr (.inr (some (nat_lit 0))), .inl (.natCast q), .inl (.natCast k), .inl (.natCast j), .inl (.natCast p)] (PG (nat_lit 195)).2.1 (fun L => eqL eqO L (LF q k j p)))))) = true := by decide +kernel
noncomputable def fmC (c : Nat) : Bool := allL 4 (fun q => allL (dOf c) (fun k => allL (dOf c) (fun j => allL 2 (fun p => sBeg (nat_lit 69) (nat_lit 45) (tM c) (memB [(nat_lit 0), (nat_lit 6), (nat_lit 13)]) [] (fun m0 => sx PG (nat_lit 200) (nat_lit 25) (PG (nat_lit 195)) (fun pc => Nat.beq pc (nat_lit 45)) (fun pc L st _ m => Bool.and (sKC scQ (nat_lit 69) (nat_lit 45) (tM c) (memB [(nat_lit 0), (nat_lit 6), (nat_lit 13)]) m0 m) (Bool.and (kAt (nat_lit 45) (LF q k j p) [.inr (.inr (some (nat_lit 13))), .inr (.inr (some (nat_lit 0)))] pc L st) (isReg q m))) (fun _ _ m => Bool.and (sKC scQ (nat_lit 69) (nat_lit 45) (tM c) (memB [(nat_lit 0), (nat_lit 6), (nat_lit 13)]) m0 m) false) (nat_lit 0) (LF q k j p) [] [] m0)))))
theorem q_fm0a : allL 12 fmC = true := by decide +kernel
theorem q_fm0_12 : fmC (nat_lit 12) = true := by decide +kernel
theorem q_fm0_13 : fmC (nat_lit 13) = true := by decide +kernel
theorem q_fm0_14 : fmC (nat_lit 14) = true := by decide +kernel
theorem q_fm0_15 : fmC (nat_lit 15) = true := by decide +kernel
theorem q_fm0_16 : fmC (nat_lit 16) = true := by decide +kernel
theorem q_fm0_17 : fmC (nat_lit 17) = true := by decide +kernel
theorem q_fm0 {c : Nat} (hc : c < 18) : fmC c = true := by
  rcases (show c < 12 ∨ c = 12 ∨ c = 13 ∨ c = 14 ∨ c = 15 ∨ c = 16 ∨ c = 17 by omega) with h | rfl | rfl | rfl | rfl | rfl | rfl
  · exact allL_ok q_fm0a c h
  · exact q_fm0_12
  · exact q_fm0_13
  · exact q_fm0_14
  · exact q_fm0_15
  · exact q_fm0_16
  · exact q_fm0_17
theorem q_fm1 : allL 4 (fun q => allL 6 (fun k => allL 6 (fun j => allL 2 (fun p => sBeg (nat_lit 69) (nat_lit 45) tMv (memB [(nat_lit 0), (nat_lit 26), (nat_lit 27)]) [] (fun m0 => sx PG (nat_lit 200) (nat_lit 25) (PG (nat_lit 195)) (fun _ => false) (fun _ _ _ _ m => Bool.and (eqL eqC m m0) false) (fun v _ m => Bool.and (eqL eqC m m0) (Bool.and (eqO v (some (.inr (.inl (.var (Nat.add (Nat.add (nat_lit 389120) (Nat.mul (nat_lit 4096) p)) (Nat.add (Nat.mul (nat_lit 6) k) j))))))) (true))) (nat_lit 48) (LF q k j p) [] [] m0))))) = true := by decide +kernel
/-- the model's fraction -/
theorem c_fxM (l : Launch) {D : va_G} {cy : Nat → ClassId} {al : Nat → Nat} {rest : va_W} {r : sE} {c q k j p : Nat} {o : List Nat} (hc : c < 18) (hq : q < 4) (hk : k < dOf c) (hj : j < dOf c) (hp : p < 2) (hcc : cC 69 45 (tM c) r) (hn1 : r.1 (mP 0 1) = Int32.ofNat (nOf c)) (hn4 : r.1 (mP 0 4) = Int32.ofNat (dOf c)) (ho : o ∈ ordN (nOf c)) (hr : ∀ i, i < 5 → r.1 (mP 6 (6 * q + 1) + i) = Int32.ofNat (o.getD i 0)) : gMet l D cy al 200 195 (tW r al cy rest 45 tMv) [.ref (al 0), .int (Int32.ofNat q), .int (Int32.ofNat k), .int (Int32.ofNat j), .int (Int32.ofNat p)] (fun v w => v = some (.long (Int64.ofInt (prP p (getZ (Tw c k (wdO o)) j)))) ∧ ∃ r1, kpC chW 69 45 tMv r r1 ∧ lfI r1 ∧ w = tW r1 al cy rest 45 tMv) := by
  refine gMet_up (d := 25) (by omega) ?_
  have d6 := (cd_tab c hc).1.2
  have key := gMet_of (l := l) (D := D) (cy := cy) (al := al) (d := 25) (k := 195) (w := tW r al cy rest 45 tMv) (r := r) (G := fun v w => v = some (.long (Int64.ofInt (prP p (getZ (Tw c k (wdO o)) j)))) ∧ ∃ r1, kpC chW 69 45 tMv r r1 ∧ lfI r1 ∧ w = tW r1 al cy rest 45 tMv) (allL_ok (allL_ok (allL_ok (allL_ok q_fmE q hq) k (by omega)) j (by omega)) p hp) (fun At hFC => ?_)
  · rw [show List.map (sVal r al) [.inr (.inr (some (nat_lit 0))), .inl (.natCast q), .inl (.natCast k), .inl (.natCast j), .inl (.natCast p)] = [.ref (al 0), .int (Int32.ofNat q), .int (Int32.ofNat k), .int (Int32.ofNat j), .int (Int32.ofNat p)] by simp only [List.map_cons, List.map_nil, sVal, sI_c]] at key
    exact key
  have eL : ∀ r' : sE, (LF q k j p).map (Option.map (sVal r' al)) = [some (.ref (al 0)), some (.int (Int32.ofNat q)), some (.int (Int32.ofNat k)), some (.int (Int32.ofNat j)), some (.int (Int32.ofNat p))] := fun r' => by
    simp only [LF, List.map_cons, List.map_nil, Option.map_some, sVal, sI_c]
  refine g_segH hFC (r := r) (by omega) (tM_ok hc) hcc sPa_nil oM_nil (allL_ok (allL_ok (allL_ok (allL_ok (q_fm0 hc) q hq) k hk) j hj) p hp) (fun m0 pc L st pa m hk3 hp2 hk4 hH => ?_) (fun m0 v pa m hk2 => nomatch hk2)
  rw [Bool.and_eq_true] at hk3
  obtain ⟨rfl, rfl, rfl⟩ := kAt_ok hk3.1
  have hO : hasO (eOf 69 r m) 13 o := fun i hi => by rw [isReg_ok hk3.2 i hi, hr i hi]
  obtain ⟨v3, v4⟩ := Bool.and_eq_true_iff.mp q_n4V
  obtain ⟨⟨m1, m2⟩, m3⟩ := kpM_regs
  have hkp : kp 69 45 tMv r (eOf 69 r m) := hk4
  have g1 : (eOf 69 r m).1 (mP 0 1) = Int32.ofNat (nOf c) := (hkp.1 _ m1 m2).trans hn1
  have g4 : (eOf 69 r m).1 (mP 0 4) = Int32.ofNat (dOf c) := (hkp.1 _ v3 (by decide +kernel)).trans hn4
  generalize eOf 69 r m = r1 at hO hkp g1 g4 ⊢
  have e0 : List.map (sVal r al) [.inr (.inr (some (nat_lit 13))), .inr (.inr (some (nat_lit 0)))] = ([.ref (al 0), .ref (al 13)] : List Value).reverse ++ [] := rfl
  rw [eL, e0]
  refine hFC.2 45 48 192 24 _ _ _ _ _ ⟨_, _, rfl, rfl⟩ rfl (by decide) rfl (gRecv_t (by omega) rfl rfl) (c_ttM l (by omega) hc (kpM_cC hc hkp hcc) g1 g4 ho hO) (fun v1 w2 h => ?_)
  obtain ⟨rfl, r2, k1, kl, k2, rfl⟩ := h
  have g := g_segS hFC (r := r2) (al := al) (cy := cy) (rest := rest) tMv_ok (cC_M _) sPa_nil oM_nil (allL_ok (allL_ok (allL_ok (allL_ok q_fm1 q hq) k (by omega)) j (by omega)) p hp) (fun pc L st pa hk => nomatch hk) (fun v pa hk5 hp2 => ?_)
  · rw [eL] at g
    exact g
  rw [Bool.and_eq_true] at hk5
  rw [eqO_ok hk5.1]
  refine ⟨?_, r2, kpC_trans (kpW_of hkp) k1, kl, rfl⟩
  show some (Value.long (sJ r2 (.var (389120 + 4096 * p + (6 * k + j))))) = _
  simp only [sJ, sD_v]
  obtain ⟨t1, t2⟩ := k2 k hk j hj
  match p, hp with
  | 0, _ => exact congrArg (fun z => some (Value.long z)) ((congrArg r2.2 (show 389120 + 4096 * 0 + (6 * k + j) = 389120 + (6 * k + j) by omega)).trans t1)
  | 1, _ => exact congrArg (fun z => some (Value.long z)) ((congrArg r2.2 (show 389120 + 4096 * 1 + (6 * k + j) = 393216 + (6 * k + j) by omega)).trans t2)
noncomputable def frN0 (c a0 : Nat) : Bool := qRun c (nat_lit 102) (nat_lit 195) [nat_lit 0, nat_lit 1] [nat_lit 0] (dP (nat_lit 819200) (nat_lit 0) (nat_lit 4) a0 []) [.inl (dA (nat_lit 819200) (nat_lit 0) (nat_lit 4) a0), .inl (.var (nat_lit 819201)), .inl (.var (nat_lit 819202)), .inl (.var (nat_lit 819203))]
noncomputable def frN1 (c a0 a1 : Nat) : Bool := qRun c (nat_lit 102) (nat_lit 195) [nat_lit 0, nat_lit 1] [nat_lit 0] (dP (nat_lit 819200) (nat_lit 0) (nat_lit 4) a0 (dP (nat_lit 819201) (nat_lit 0) (dOf c) a1 [])) [.inl (dA (nat_lit 819200) (nat_lit 0) (nat_lit 4) a0), .inl (dA (nat_lit 819201) (nat_lit 0) (dOf c) a1), .inl (.var (nat_lit 819202)), .inl (.var (nat_lit 819203))]
noncomputable def frN2 (c a0 a1 a2 : Nat) : Bool := qRun c (nat_lit 102) (nat_lit 195) [nat_lit 0, nat_lit 1] [nat_lit 0] (dP (nat_lit 819200) (nat_lit 0) (nat_lit 4) a0 (dP (nat_lit 819201) (nat_lit 0) (dOf c) a1 (dP (nat_lit 819202) (nat_lit 0) (dOf c) a2 []))) [.inl (dA (nat_lit 819200) (nat_lit 0) (nat_lit 4) a0), .inl (dA (nat_lit 819201) (nat_lit 0) (dOf c) a1), .inl (dA (nat_lit 819202) (nat_lit 0) (dOf c) a2), .inl (.var (nat_lit 819203))]
noncomputable def frN3 (c a0 a1 a2 a3 : Nat) : Bool := qRun c (nat_lit 102) (nat_lit 195) [nat_lit 0, nat_lit 1] [nat_lit 0] (dP (nat_lit 819200) (nat_lit 0) (nat_lit 4) a0 (dP (nat_lit 819201) (nat_lit 0) (dOf c) a1 (dP (nat_lit 819202) (nat_lit 0) (dOf c) a2 (dP (nat_lit 819203) (nat_lit 0) (nat_lit 2) a3 [])))) [.inl (dA (nat_lit 819200) (nat_lit 0) (nat_lit 4) a0), .inl (dA (nat_lit 819201) (nat_lit 0) (dOf c) a1), .inl (dA (nat_lit 819202) (nat_lit 0) (dOf c) a2), .inl (dA (nat_lit 819203) (nat_lit 0) (nat_lit 2) a3)]
theorem q_frN0 : allL 18 (fun c => allL 2 (fun a0 => frN0 c a0)) = true := by decide +kernel
theorem q_frN1 : allL 18 (fun c => allL 4 (fun a0 => allL 2 (fun a1 => frN1 c (Nat.add a0 2) a1))) = true := by decide +kernel
theorem q_frN2 : allL 18 (fun c => allL 4 (fun a0 => allL (dOf c) (fun a1 => allL 2 (fun a2 => frN2 c (Nat.add a0 2) (Nat.add a1 2) a2)))) = true := by decide +kernel
theorem q_frN3 : allL 18 (fun c => allL 4 (fun a0 => allL (dOf c) (fun a1 => allL (dOf c) (fun a2 => allL 2 (fun a3 => frN3 c (Nat.add a0 2) (Nat.add a1 2) (Nat.add a2 2) a3))))) = true := by decide +kernel
theorem kd_102 : (PG 102).2.2.2.2 = 3 := by decide +kernel
theorem op_fraction {l : Launch} {D : va_G} {cy : Nat → ClassId} {alX alM : Nat → Nat} : OpI l D cy alX alM 102 195 4 := by
  intro r as hI hlen
  obtain ⟨a0, a1, a2, a3, rfl⟩ : ∃ a0 a1 a2 a3, as = [a0, a1, a2, a3] := by
    match as, hlen with
    | [a0, a1, a2, a3], _ => exact ⟨a0, a1, a2, a3, rfl⟩
  refine OpOk_uA [a0, a1, a2, a3, r.1 (xP 34 0), r.1 (xP 34 1), r.1 (xP 34 2), r.1 (xP 34 3)] ?_
  have e0 : (uA r [a0, a1, a2, a3, r.1 (xP 34 0), r.1 (xP 34 1), r.1 (xP 34 2), r.1 (xP 34 3)]).1 819200 = a0 := uA_a 0
  have e1 : (uA r [a0, a1, a2, a3, r.1 (xP 34 0), r.1 (xP 34 1), r.1 (xP 34 2), r.1 (xP 34 3)]).1 819201 = a1 := uA_a 1
  have e2 : (uA r [a0, a1, a2, a3, r.1 (xP 34 0), r.1 (xP 34 1), r.1 (xP 34 2), r.1 (xP 34 3)]).1 819202 = a2 := uA_a 2
  have e3 : (uA r [a0, a1, a2, a3, r.1 (xP 34 0), r.1 (xP 34 1), r.1 (xP 34 2), r.1 (xP 34 3)]).1 819203 = a3 := uA_a 3
  have f0 : (uA r [a0, a1, a2, a3, r.1 (xP 34 0), r.1 (xP 34 1), r.1 (xP 34 2), r.1 (xP 34 3)]).1 819204 = (uA r [a0, a1, a2, a3, r.1 (xP 34 0), r.1 (xP 34 1), r.1 (xP 34 2), r.1 (xP 34 3)]).1 (xP 34 0) := (uA_a 4).trans (uA_lo (by decide)).symm
  have f1 : (uA r [a0, a1, a2, a3, r.1 (xP 34 0), r.1 (xP 34 1), r.1 (xP 34 2), r.1 (xP 34 3)]).1 819205 = (uA r [a0, a1, a2, a3, r.1 (xP 34 0), r.1 (xP 34 1), r.1 (xP 34 2), r.1 (xP 34 3)]).1 (xP 34 1) := (uA_a 5).trans (uA_lo (by decide)).symm
  have f2 : (uA r [a0, a1, a2, a3, r.1 (xP 34 0), r.1 (xP 34 1), r.1 (xP 34 2), r.1 (xP 34 3)]).1 819206 = (uA r [a0, a1, a2, a3, r.1 (xP 34 0), r.1 (xP 34 1), r.1 (xP 34 2), r.1 (xP 34 3)]).1 (xP 34 2) := (uA_a 6).trans (uA_lo (by decide)).symm
  have f3 : (uA r [a0, a1, a2, a3, r.1 (xP 34 0), r.1 (xP 34 1), r.1 (xP 34 2), r.1 (xP 34 3)]).1 819207 = (uA r [a0, a1, a2, a3, r.1 (xP 34 0), r.1 (xP 34 1), r.1 (xP 34 2), r.1 (xP 34 3)]).1 (xP 34 3) := (uA_a 7).trans (uA_lo (by decide)).symm
  replace hI := Inv_uA (as := [a0, a1, a2, a3, r.1 (xP 34 0), r.1 (xP 34 1), r.1 (xP 34 2), r.1 (xP 34 3)]) hI
  generalize uA r [a0, a1, a2, a3, r.1 (xP 34 0), r.1 (xP 34 1), r.1 (xP 34 2), r.1 (xP 34 3)] = r at hI e0 e1 e2 e3 f0 f1 f2 f3 ⊢
  obtain ⟨c0, hc0, hp0, hv0⟩ := dP_ok r 819200 (lo := 0) (n := 4) (Or.inr (by omega)) (by omega)
  rw [e0] at hv0
  obtain ⟨c, hc, hcc, hcm⟩ := id hI
  obtain ⟨⟨d1, d6⟩, n1, n5⟩ := cd_tab c hc
  obtain ⟨⟨-, hn1, -⟩, hn2, hd2⟩ := CC_nd hc hcc
  obtain ⟨c1, hc1, hp1, hv1⟩ := dP_ok r 819201 (lo := 0) (n := dOf c) (Or.inr (by omega)) (by omega)
  rw [e1] at hv1
  obtain ⟨c2, hc2, hp2, hv2⟩ := dP_ok r 819202 (lo := 0) (n := dOf c) (Or.inr (by omega)) (by omega)
  rw [e2] at hv2
  obtain ⟨c3, hc3, hp3, hv3⟩ := dP_ok r 819203 (lo := 0) (n := 2) (Or.inr (by omega)) (by omega)
  rw [e3] at hv3
  by_cases b0 : c0 < 2
  · exact qRun_ok (show frN0 c c0 = true from allL_ok (allL_ok q_frN0 c hc) c0 b0) hc hcc hcm (hp0 _ sPa_nil) (by simp only [List.map_cons, List.map_nil, sVal, hv0, sI_v, e1, e2, e3]) (by simp only [List.map_cons, List.map_nil, sVal, hv0, sI_v, e1, e2, e3])
  obtain ⟨q, rfl⟩ : ∃ k, c0 = k + 2 := ⟨c0 - 2, by omega⟩
  by_cases b1 : c1 < 2
  · exact qRun_ok (show frN1 c (q + 2) c1 = true from allL_ok (allL_ok (allL_ok q_frN1 c hc) q (by omega)) c1 b1) hc hcc hcm (hp0 _ (hp1 _ sPa_nil)) (by simp only [List.map_cons, List.map_nil, sVal, hv0, hv1, sI_v, e2, e3]) (by simp only [List.map_cons, List.map_nil, sVal, hv0, hv1, sI_v, e2, e3])
  obtain ⟨k, rfl⟩ : ∃ k, c1 = k + 2 := ⟨c1 - 2, by omega⟩
  by_cases b2 : c2 < 2
  · exact qRun_ok (show frN2 c (q + 2) (k + 2) c2 = true from allL_ok (allL_ok (allL_ok (allL_ok q_frN2 c hc) q (by omega)) k (by omega)) c2 b2) hc hcc hcm (hp0 _ (hp1 _ (hp2 _ sPa_nil))) (by simp only [List.map_cons, List.map_nil, sVal, hv0, hv1, hv2, sI_v, e3]) (by simp only [List.map_cons, List.map_nil, sVal, hv0, hv1, hv2, sI_v, e3])
  obtain ⟨j, rfl⟩ : ∃ k, c2 = k + 2 := ⟨c2 - 2, by omega⟩
  by_cases b3 : c3 < 2
  · exact qRun_ok (show frN3 c (q + 2) (k + 2) (j + 2) c3 = true from allL_ok (allL_ok (allL_ok (allL_ok (allL_ok q_frN3 c hc) q (by omega)) k (by omega)) j (by omega)) c3 b3) hc hcc hcm (hp0 _ (hp1 _ (hp2 _ (hp3 _ sPa_nil)))) (by simp only [List.map_cons, List.map_nil, sVal, hv0, hv1, hv2, hv3]) (by simp only [List.map_cons, List.map_nil, sVal, hv0, hv1, hv2, hv3])
  obtain ⟨p, rfl⟩ : ∃ k, c3 = k + 2 := ⟨c3 - 2, by omega⟩
  have g0 : a0 = Int32.ofNat q := by rw [← hv0, dA_c (by omega)]
  have g1 : a1 = Int32.ofNat k := by rw [← hv1, dA_c (by omega)]
  have g2 : a2 = Int32.ofNat j := by rw [← hv2, dA_c (by omega)]
  have g3 : a3 = Int32.ofNat p := by rw [← hv3, dA_c (by omega)]
  subst g0 g1 g2 g3
  have hq4 : q < 4 := by omega
  obtain ⟨o, ho, hx, hm⟩ := (Comp_R hq4).mp (hcm q (by omega))
  have hf : r.1 (819204 + q) = r.1 (xP 34 q) := by
    match q, hq4 with
    | 0, _ => exact f0
    | 1, _ => exact f1
    | 2, _ => exact f2
    | 3, _ => exact f3
  exact OpOk_W (V := some (.long (Int64.ofInt (prP p (getZ (Tw c k (wdO o)) j))))) hI (fun rest => c_fxX l hc hq4 (by omega) (by omega) (by omega) hcc.1 ho hx hf) (fun rest => c_fxM l hc hq4 (by omega) (by omega) (by omega) hcc.2 hn2 hd2 ho hm) (Or.inr ⟨kd_102, _, rfl⟩)
