/-! 98p: inner (by wip/whole/mk98p.py) -/
theorem fr_bd {a b c d : Int} (hb : 1 ≤ b) (hd : 1 ≤ d) : 1 ≤ frB a b c d ∧ frB a b c d ≤ b * d ∧ (frA a b c d).natAbs ≤ (frU a b c d).natAbs := by
  have hp : 0 < b * d := Int.mul_pos (by omega) (by omega)
  have hg := frG_pos (a := a) (c := c) (show b * d ≠ 0 by omega)
  have hdv : (frG a b c d : Int) ∣ b * d := Int.ofNat_dvd_left.mpr (Nat.gcd_dvd_right _ _)
  unfold frB frA
  rw [Int.sign_eq_one_of_pos hp, Int.mul_one, Int.mul_one]
  generalize frG a b c d = g at hg hdv ⊢
  generalize frU a b c d = u
  generalize b * d = z at hp hdv ⊢
  obtain ⟨q, hq⟩ := hdv
  have e : z.tdiv g = q := by rw [hq]; exact Int.mul_tdiv_cancel_left _ (by omega)
  rw [e]
  have h1 : 1 ≤ q := by
    rcases Int.lt_or_le q 1 with h | h
    · have := Int.mul_le_mul_of_nonneg_left (show q ≤ 0 by omega) (show 0 ≤ (g : Int) by omega)
      rw [Int.mul_zero] at this
      omega
    · exact h
  have h2 := Int.mul_le_mul_of_nonneg_right (show 1 ≤ (g : Int) by omega) (show 0 ≤ q by omega)
  rw [Int.one_mul] at h2
  refine ⟨h1, by omega, ?_⟩
  rw [Int.natAbs_tdiv]
  exact Nat.div_le_self _ _
/-- the sum of the first k terms -/
noncomputable def ipF (c : Nat) (x y : Nat → Int) : Nat → Int × Int
  | 0 => (0, 1)
  | k + 1 => (frA (ipF c x y k).1 (ipF c x y k).2 (x k * y k * nN c 0 k) (nN c 1 k), frB (ipF c x y k).1 (ipF c x y k).2 (x k * y k * nN c 0 k) (nN c 1 k))
theorem q_nN : allL 18 (fun c => allL (dOf c) (fun k => Bool.and (Nat.ble (nN c (nat_lit 0) k) (nat_lit 16)) (Bool.and (Nat.ble (nat_lit 1) (nN c (nat_lit 1) k)) (Nat.ble (nN c (nat_lit 1) k) (nat_lit 16))))) = true := by decide +kernel
theorem nN_bd {c k : Nat} (hc : c < 18) (hk : k < dOf c) : nN c 0 k ≤ 16 ∧ 1 ≤ nN c 1 k ∧ nN c 1 k ≤ 16 := by
  have h := allL_ok (allL_ok q_nN c hc) k hk
  rw [Bool.and_eq_true, Bool.and_eq_true] at h
  exact ⟨Nat.le_of_ble_eq_true h.1, Nat.le_of_ble_eq_true h.2.1, Nat.le_of_ble_eq_true h.2.2⟩
def bd9 (d : Nat) (x : Nat → Int) : Prop := ∀ k, k < d → (x k).natAbs ≤ 999
theorem ip_U {a b z : Int} {n0 n1 k P : Nat} (h0 : n0 ≤ 16) (h2 : n1 ≤ 16) (hz : z.natAbs ≤ 998001) (hb : b.natAbs ≤ P) (ha : a.natAbs ≤ k * 998001 * P) : (frU a b (z * n0) n1).natAbs ≤ (k + 1) * 998001 * (P * 16) := by
  unfold frU
  have e1 : (a * (n1 : Int)).natAbs ≤ k * 998001 * P * 16 := by
    rw [Int.natAbs_mul, Int.natAbs_natCast]
    exact Nat.mul_le_mul ha h2
  have e2 : (z * (n0 : Int) * b).natAbs ≤ 998001 * 16 * P := by
    rw [Int.natAbs_mul, Int.natAbs_mul, Int.natAbs_natCast]
    exact Nat.mul_le_mul (Nat.mul_le_mul hz h0) hb
  have e3 := Int.natAbs_add_le (a * (n1 : Int)) (z * (n0 : Int) * b)
  have e4 : (k + 1) * 998001 * (P * 16) = k * 998001 * P * 16 + 998001 * 16 * P := by
    rw [Nat.add_mul, Nat.add_mul, Nat.one_mul]
    congr 1
    · rw [Nat.mul_assoc (k * 998001)]
    · rw [Nat.mul_assoc, Nat.mul_comm P 16]
  omega
theorem ip_bd {c : Nat} {x y : Nat → Int} (hc : c < 18) (hx : bd9 (dOf c) x) (hy : bd9 (dOf c) y) : ∀ k, k ≤ dOf c → 1 ≤ (ipF c x y k).2 ∧ (ipF c x y k).2.natAbs ≤ 16 ^ k ∧ (ipF c x y k).1.natAbs ≤ k * 998001 * 16 ^ k := by
  intro k
  induction k with
  | zero => intro _; exact ⟨(show (1 : Int) ≤ 1 by decide), (show (1 : Int).natAbs ≤ 16 ^ 0 by decide), (show (0 : Int).natAbs ≤ 0 * 998001 * 16 ^ 0 by decide)⟩
  | succ k ih =>
    intro hk
    obtain ⟨h1, h2, h3⟩ := ih (by omega)
    obtain ⟨n0, n1, n2⟩ := nN_bd hc (show k < dOf c by omega)
    have hz : (x k * y k).natAbs ≤ 998001 := by
      rw [Int.natAbs_mul]
      exact Nat.mul_le_mul (hx k (by omega)) (hy k (by omega))
    have hU := ip_U n0 n2 hz h2 h3
    obtain ⟨g1, g2, g3⟩ := fr_bd (a := (ipF c x y k).1) (c := x k * y k * nN c 0 k) h1 (show (1 : Int) ≤ (nN c 1 k : Int) by omega)
    have hm : ((ipF c x y k).2 * (nN c 1 k : Int)).natAbs ≤ 16 ^ k * 16 := by
      rw [Int.natAbs_mul, Int.natAbs_natCast]
      exact Nat.mul_le_mul h2 n2
    rw [← Nat.pow_succ] at hU hm
    exact ⟨g1, by show (frB _ _ _ _).natAbs ≤ _; omega, Nat.le_trans g3 hU⟩
/-- one step stays in range -/
theorem ip_rg {c : Nat} {x y : Nat → Int} (hc : c < 18) (hx : bd9 (dOf c) x) (hy : bd9 (dOf c) y) {k : Nat} (hk : k < dOf c) : (frU (ipF c x y k).1 (ipF c x y k).2 (x k * y k * nN c 0 k) (nN c 1 k)).natAbs < 9223372036854775808 ∧ ((ipF c x y k).2 * (nN c 1 k : Int)).natAbs < 9223372036854775808 ∧ (ipF c x y k).2 * (nN c 1 k : Int) ≠ 0 := by
  obtain ⟨h1, h2, h3⟩ := ip_bd hc hx hy k (by omega)
  obtain ⟨n0, n1, n2⟩ := nN_bd hc hk
  have hz : (x k * y k).natAbs ≤ 998001 := by
    rw [Int.natAbs_mul]
    exact Nat.mul_le_mul (hx k (by omega)) (hy k (by omega))
  have hU := ip_U n0 n2 hz h2 h3
  have hm : ((ipF c x y k).2 * (nN c 1 k : Int)).natAbs ≤ 16 ^ k * 16 := by
    rw [Int.natAbs_mul, Int.natAbs_natCast]
    exact Nat.mul_le_mul h2 n2
  have hp : 0 < (ipF c x y k).2 * (nN c 1 k : Int) := Int.mul_pos (by omega) (by omega)
  have hd := (cd_tab c hc).1.2
  have h16 : 16 ^ k ≤ 16 ^ 5 := Nat.pow_le_pow_right (by decide) (by omega)
  have hU2 : (k + 1) * 998001 * (16 ^ k * 16) ≤ 6 * 998001 * (16 ^ 5 * 16) := Nat.mul_le_mul (Nat.mul_le_mul (by omega) (Nat.le_refl _)) (Nat.mul_le_mul h16 (Nat.le_refl _))
  have n5 : (16 : Nat) ^ 5 = 1048576 := rfl
  rw [n5] at h16 hU2
  omega
noncomputable def LI (s t k : Nat) : sL := [some (.inr (.inr (some (nat_lit 24)))), some (.inr (.inr (some (Nat.add (nat_lit 37) (Nat.mul (nat_lit 2) s))))), some (.inr (.inr (some (Nat.add (nat_lit 37) (Nat.mul (nat_lit 2) t))))), some (.inl (.natCast k))]
noncomputable def ipE (c s t k : Nat) : sX := (.pow (.mul (.pow (.mul (.pow (.neg (.var (Nat.add (Nat.mul (nat_lit 4096) (Nat.add (nat_lit 37) (Nat.mul (nat_lit 2) s))) k))) (nat_lit 21)) (.pow (.neg (.var (Nat.add (Nat.mul (nat_lit 4096) (Nat.add (nat_lit 37) (Nat.mul (nat_lit 2) t))) k))) (nat_lit 21))) (nat_lit 22)) (.natCast (nN c (nat_lit 0) k))) (nat_lit 22))
theorem q_ipE : allL 4 (fun s => allL 4 (fun t => sEnt [.inr (.inr (some (nat_lit 24))), .inr (.inr (some (Nat.add (nat_lit 37) (Nat.mul (nat_lit 2) s)))), .inr (.inr (some (Nat.add (nat_lit 37) (Nat.mul (nat_lit 2) t))))] (PG (nat_lit 45)).2.1 (fun L => eqL eqO L [some (.inr (.inr (some (nat_lit 24)))), some (.inr (.inr (some (Nat.add (nat_lit 37) (Nat.mul (nat_lit 2) s))))), some (.inr (.inr (some (Nat.add (nat_lit 37) (Nat.mul (nat_lit 2) t))))), none]))) = true := by decide +kernel
theorem q_ip0 : allL 18 (fun c => allL 4 (fun s => allL 4 (fun t => sBeg (nat_lit 0) (nat_lit 68) (tX c) (memB [(nat_lit 1), (nat_lit 24), (nat_lit 25), (nat_lit 26), (nat_lit 27), (nat_lit 28), (nat_lit 29), (nat_lit 30), (Nat.add (nat_lit 37) (Nat.mul (nat_lit 2) s)), (Nat.add (nat_lit 37) (Nat.mul (nat_lit 2) t))]) [] (fun m0 => sx PG (nat_lit 200) (nat_lit 21) (PG (nat_lit 45)) (fun pc => Nat.beq pc (nat_lit 53)) (fun pc L st _ m => Bool.and (sKC scQ (nat_lit 0) (nat_lit 68) (tX c) (memB [(nat_lit 1), (nat_lit 24), (nat_lit 25), (nat_lit 26), (nat_lit 27), (nat_lit 28), (nat_lit 29), (nat_lit 30), (Nat.add (nat_lit 37) (Nat.mul (nat_lit 2) s)), (Nat.add (nat_lit 37) (Nat.mul (nat_lit 2) t))]) m0 m) (Bool.and (kAt (nat_lit 53) (LI s t (nat_lit 0)) [.inr (.inl (.natCast (nN c (nat_lit 1) (nat_lit 0)))), .inr (.inl (ipE c s t (nat_lit 0))), .inl (.natCast (nat_lit 0)), .inr (.inr (some (nat_lit 28)))] pc L st) (Bool.and (isLE m (nat_lit 29) (nat_lit 0) (.natCast (nat_lit 0))) (isLE m (nat_lit 30) (nat_lit 0) (.natCast (nat_lit 1)))))) (fun _ _ m => Bool.and (sKC scQ (nat_lit 0) (nat_lit 68) (tX c) (memB [(nat_lit 1), (nat_lit 24), (nat_lit 25), (nat_lit 26), (nat_lit 27), (nat_lit 28), (nat_lit 29), (nat_lit 30), (Nat.add (nat_lit 37) (Nat.mul (nat_lit 2) s)), (Nat.add (nat_lit 37) (Nat.mul (nat_lit 2) t))]) m0 m) false) (nat_lit 0) [some (.inr (.inr (some (nat_lit 24)))), some (.inr (.inr (some (Nat.add (nat_lit 37) (Nat.mul (nat_lit 2) s))))), some (.inr (.inr (some (Nat.add (nat_lit 37) (Nat.mul (nat_lit 2) t))))), none] [] [] m0)))) = true := by decide +kernel
theorem q_ip1 : allL 18 (fun c => allL 4 (fun s => allL 4 (fun t => allL (dOf c) (fun k => sBeg (nat_lit 0) (nat_lit 68) (tX c) (memB [(nat_lit 1), (nat_lit 24), (nat_lit 25), (nat_lit 26), (nat_lit 27), (nat_lit 28), (nat_lit 29), (nat_lit 30), (Nat.add (nat_lit 37) (Nat.mul (nat_lit 2) s)), (Nat.add (nat_lit 37) (Nat.mul (nat_lit 2) t))]) [] (fun m0 => sx PG (nat_lit 200) (nat_lit 21) (PG (nat_lit 45)) (fun pc => Nat.beq pc (nat_lit 53)) (fun pc L st _ m => Bool.and (eqL eqC m m0) (Bool.and (Nat.ble (Nat.succ (Nat.succ k)) (dOf c)) (kAt (nat_lit 53) (LI s t (Nat.succ k)) [.inr (.inl (.natCast (nN c (nat_lit 1) (Nat.succ k)))), .inr (.inl (ipE c s t (Nat.succ k))), .inl (.natCast (nat_lit 0)), .inr (.inr (some (nat_lit 28)))] pc L st))) (fun v _ m => Bool.and (eqL eqC m m0) (Bool.and (Nat.beq (Nat.succ k) (dOf c)) (eqO v (some (.inr (.inr (some (nat_lit 28)))))))) (nat_lit 56) (LI s t k) [] [] m0))))) = true := by decide +kernel
theorem q_ipV : allL 4 (fun s => allL 6 (fun k => Bool.and (isV (nat_lit 0) (nat_lit 68) tXv (Nat.add (Nat.mul (nat_lit 4096) (Nat.add (nat_lit 37) (Nat.mul (nat_lit 2) s))) k)) (Bool.not (scQ (Nat.add (Nat.mul (nat_lit 4096) (Nat.add (nat_lit 37) (Nat.mul (nat_lit 2) s))) k))))) = true := by decide +kernel
theorem q_ipV2 : allL 4 (fun s => allL 6 (fun k => Bool.and (isV (nat_lit 69) (nat_lit 45) tMv (Nat.add (nat_lit 319488) (Nat.add (Nat.mul (nat_lit 20) s) k))) (Bool.not (scQ (Nat.add (nat_lit 319488) (Nat.add (Nat.mul (nat_lit 20) s) k)))))) = true := by decide +kernel
theorem q_sAd : allL 2 (fun f => allL 6 (fun i => Bool.and (scQ (Nat.add (Nat.mul (nat_lit 4096) (Nat.add (nat_lit 29) (Nat.mul (nat_lit 3) f))) i)) (scQ (Nat.add (Nat.mul (nat_lit 4096) (Nat.add (nat_lit 30) (Nat.mul (nat_lit 3) f))) i)))) = true := by decide +kernel
theorem kp_Ad {f i : Nat} {r r1 : sE} (hf : f < 2) (hi : i < 6) (h : kpC (chAd f i) 0 68 tXv r r1) : kp 0 68 tXv r r1 := kpC_weak (Ch2 := scQ) (fun u hu => by
  obtain ⟨h1, h2⟩ := Bool.and_eq_true_iff.mp (allL_ok (allL_ok q_sAd f hf) i hi)
  cases hh : chAd f i u with
  | false => rfl
  | true =>
    rcases Bool.or_eq_true_iff.mp hh with hh | hh
    · have := Nat.eq_of_beq_eq_true hh
      rw [← this, hu] at h1
      exact nomatch h1
    · have := Nat.eq_of_beq_eq_true hh
      rw [← this, hu] at h2
      exact nomatch h2) h
theorem kp_Md {r r1 : sE} (h : kpC chMd 69 45 tMv r r1) : kp 69 45 tMv r r1 := kpC_weak (Ch2 := scQ) (fun u hu => by
  cases hh : chMd u with
  | false => rfl
  | true =>
    rcases Bool.or_eq_true_iff.mp hh with hh | hh
    · have := Nat.eq_of_beq_eq_true hh
      subst this
      exact absurd hu (by decide +kernel)
    · have := Nat.eq_of_beq_eq_true hh
      subst this
      exact absurd hu (by decide +kernel)) h
theorem J_nat (n : Nat) : Int64.ofNat n = Int64.ofInt (n : Int) := (Int64.ofInt_eq_ofNat).symm
theorem J_i2l {r : sE} {u : Nat} {x : Int} (h : (r.1 u).toInt = x) : sJ r (.pow (.neg (.var u)) 21) = Int64.ofInt x := by
  rw [sJ_i2l rfl, ← h, Int64.ofInt_int32ToInt]
theorem LI_eq {r : sE} {al : Nat → Nat} {s t k : Nat} : (LI s t k).map (Option.map (sVal r al)) = [some (.ref (al 24)), some (.ref (al (37 + 2 * s))), some (.ref (al (37 + 2 * t))), some (.int (Int32.ofNat k))] := by
  simp only [LI, List.map_cons, List.map_nil, Option.map_some, sVal, sI_c]
  rfl
theorem ip_st {c s t k : Nat} {x y : Nat → Int} {r : sE} {al : Nat → Nat} (hx : (r.1 (xP (37 + 2 * s) k)).toInt = x k) (hy : (r.1 (xP (37 + 2 * t) k)).toInt = y k) : List.map (sVal r al) [.inr (.inl (.natCast (nN c (nat_lit 1) k))), .inr (.inl (ipE c s t k)), .inl (.natCast (nat_lit 0)), .inr (.inr (some (nat_lit 28)))] = ([.ref (al 28), .int (Int32.ofNat 0), .long (Int64.ofInt (x k * y k * nN c 0 k)), .long (Int64.ofInt (nN c 1 k))] : List Value).reverse ++ [] := by
  have e : sJ r (ipE c s t k) = Int64.ofInt (x k * y k * nN c 0 k) := by
    unfold ipE
    show (sD _ _).2 = _
    rw [sD_b, sD_b]
    show sJ r (.pow (.neg (.var (4096 * (37 + 2 * s) + k))) 21) * sJ r (.pow (.neg (.var (4096 * (37 + 2 * t) + k))) 21) * sJ r (.natCast (nN c 0 k)) = _
    rw [J_i2l (u := 4096 * (37 + 2 * s) + k) hx, J_i2l (u := 4096 * (37 + 2 * t) + k) hy]
    simp only [sJ, sD_c]
    rw [J_nat, ← Int64.ofInt_mul, ← Int64.ofInt_mul]
  simp only [List.map_cons, List.map_nil, sVal, e, sI_c]
  simp only [sJ, sD_c, J_nat]
  rfl
theorem ip_kp {s k : Nat} {r r1 : sE} (hs : s < 4) (hk : k < 6) (h : kp 0 68 tXv r r1) : r1.1 (xP (37 + 2 * s) k) = r.1 (xP (37 + 2 * s) k) := by
  have := allL_ok (allL_ok q_ipV s hs) k hk
  rw [Bool.and_eq_true] at this
  refine h.1 _ this.1 ?_
  have h2 := this.2
  cases hh : scQ (Nat.add (Nat.mul (nat_lit 4096) (Nat.add (nat_lit 37) (Nat.mul (nat_lit 2) s))) k) with
  | false => exact hh
  | true => rw [hh] at h2; exact nomatch h2
theorem ip_kpM {s k : Nat} {r r1 : sE} (hs : s < 4) (hk : k < 6) (h : kp 69 45 tMv r r1) : r1.1 (319488 + (20 * s + k)) = r.1 (319488 + (20 * s + k)) := by
  have := allL_ok (allL_ok q_ipV2 s hs) k hk
  rw [Bool.and_eq_true] at this
  refine h.1 _ this.1 ?_
  have h2 := this.2
  cases hh : scQ (Nat.add (nat_lit 319488) (Nat.add (Nat.mul (nat_lit 20) s) k)) with
  | false => rfl
  | true => rw [hh] at h2; exact nomatch h2
/-- the class' innerProduct -/
theorem c_ipX (l : Launch) {D : va_G} {cy : Nat → ClassId} {al : Nat → Nat} {rest : va_W} {r : sE} {c s t dd : Nat} {x y : Nat → Int} (hdd : 21 ≤ dd) (hc : c < 18) (hs : s < 4) (ht : t < 4) (hcc : cC 0 68 (tX c) r) (hx : ∀ k, k < dOf c → (r.1 (xP (37 + 2 * s) k)).toInt = x k) (hy : ∀ k, k < dOf c → (r.1 (xP (37 + 2 * t) k)).toInt = y k) (bx : bd9 (dOf c) x) (by_ : bd9 (dOf c) y) : gMet l D cy al dd 45 (tW r al cy rest 68 tXv) [.ref (al 24), .ref (al (37 + 2 * s)), .ref (al (37 + 2 * t))] (fun v w => v = some (.ref (al 28)) ∧ ∃ r1, kp 0 68 tXv r r1 ∧ r1.2 (xP 29 0) = Int64.ofInt (ipF c x y (dOf c)).1 ∧ r1.2 (xP 30 0) = Int64.ofInt (ipF c x y (dOf c)).2 ∧ w = tW r1 al cy rest 68 tXv) := by
  refine gMet_up hdd ?_
  obtain ⟨d1, d6⟩ := (cd_tab c hc).1
  have key := gMet_of (l := l) (D := D) (cy := cy) (al := al) (d := 21) (k := 45) (w := tW r al cy rest 68 tXv) (r := r) (G := fun v w => v = some (.ref (al 28)) ∧ ∃ r1, kp 0 68 tXv r r1 ∧ r1.2 (xP 29 0) = Int64.ofInt (ipF c x y (dOf c)).1 ∧ r1.2 (xP 30 0) = Int64.ofInt (ipF c x y (dOf c)).2 ∧ w = tW r1 al cy rest 68 tXv) (allL_ok (allL_ok q_ipE s hs) t ht) (fun At hFC => ?_)
  · exact key
  have loop : ∀ (m k : Nat) (r' : sE), k + (m + 1) = dOf c → kp 0 68 tXv r r' → r'.2 (xP 29 0) = Int64.ofInt (ipF c x y k).1 → r'.2 (xP 30 0) = Int64.ofInt (ipF c x y k).2 → At 53 [some (.ref (al 24)), some (.ref (al (37 + 2 * s))), some (.ref (al (37 + 2 * t))), some (.int (Int32.ofNat k))] (([.ref (al 28), .int (Int32.ofNat 0), .long (Int64.ofInt (x k * y k * nN c 0 k)), .long (Int64.ofInt (nN c 1 k))] : List Value).reverse ++ []) (tW r' al cy rest 68 tXv) := by
    intro m
    induction m with
    | zero =>
      intro k r' hm hk' ha hb
      obtain ⟨u1, u2, u3⟩ := ip_rg hc bx by_ (show k < dOf c by omega)
      refine hFC.2 53 56 2 20 _ _ [] _ _ ⟨_, _, rfl, rfl⟩ rfl (by decide) rfl (gRecv_x (j := 28) (show 28 < 68 by omega) rfl rfl) (c_addX (f := 0) l (by omega) (by omega) (by omega) ha hb u1 u2 u3) (fun v w2 h => ?_)
      obtain ⟨rfl, r2, g1, g2, g3, rfl⟩ := h
      have kp2 := kp_trans hk' (kp_Ad (by omega) (by omega) g1)
      have g := g_segS hFC (r := r2) (al := al) (cy := cy) (rest := rest) (tX_ok hc) (kpX_cC hc kp2 hcc) sPa_nil oX_nil (allL_ok (allL_ok (allL_ok (allL_ok q_ip1 c hc) s hs) t ht) k (by omega)) (fun pc L st pa hk hp => ?_) (fun v pa hk hp => ?_)
      · rw [LI_eq] at g
        exact g
      · rw [Bool.and_eq_true] at hk
        have := Nat.le_of_ble_eq_true hk.1
        have e : k + 2 ≤ dOf c := this
        omega
      · rw [Bool.and_eq_true] at hk
        rw [eqO_ok hk.2]
        have e : k + 1 = dOf c := by omega
        rw [← e]
        exact ⟨rfl, r2, kp2, g2, g3, rfl⟩
    | succ m ih =>
      intro k r' hm hk' ha hb
      obtain ⟨u1, u2, u3⟩ := ip_rg hc bx by_ (show k < dOf c by omega)
      refine hFC.2 53 56 2 20 _ _ [] _ _ ⟨_, _, rfl, rfl⟩ rfl (by decide) rfl (gRecv_x (j := 28) (show 28 < 68 by omega) rfl rfl) (c_addX (f := 0) l (by omega) (by omega) (by omega) ha hb u1 u2 u3) (fun v w2 h => ?_)
      obtain ⟨rfl, r2, g1, g2, g3, rfl⟩ := h
      have kp2 := kp_trans hk' (kp_Ad (by omega) (by omega) g1)
      have g := g_segS hFC (r := r2) (al := al) (cy := cy) (rest := rest) (tX_ok hc) (kpX_cC hc kp2 hcc) sPa_nil oX_nil (allL_ok (allL_ok (allL_ok (allL_ok q_ip1 c hc) s hs) t ht) k (by omega)) (fun pc L st pa hk hp => ?_) (fun v pa hk hp => ?_)
      · rw [LI_eq] at g
        exact g
      · rw [Bool.and_eq_true] at hk
        obtain ⟨rfl, rfl, rfl⟩ := kAt_ok hk.2
        rw [LI_eq]
        have e2 := ip_st (c := c) (s := s) (t := t) (k := k + 1) (x := x) (y := y) (r := r2) (al := al) (by rw [ip_kp hs (by omega) kp2]; exact hx _ (by omega)) (by rw [ip_kp ht (by omega) kp2]; exact hy _ (by omega))
        have e3 : Nat.succ k = k + 1 := rfl
        rw [e3, e2]
        exact ih (k + 1) r2 (by omega) kp2 g2 g3
      · rw [Bool.and_eq_true] at hk
        have := Nat.eq_of_beq_eq_true hk.1
        have e : k + 1 = dOf c := this
        omega
  refine g_segH hFC (r := r) (by omega) (tX_ok hc) hcc sPa_nil oX_nil (allL_ok (allL_ok (allL_ok q_ip0 c hc) s hs) t ht) (fun m0 pc L st pa m hk3 hp hk4 hH => ?_) (fun m0 v pa m hk => nomatch hk)
  rw [Bool.and_eq_true, Bool.and_eq_true] at hk3
  obtain ⟨rfl, rfl, rfl⟩ := kAt_ok hk3.1
  rw [LI_eq, ip_st (x := x) (y := y) (hx 0 (by omega)) (hy 0 (by omega))]
  refine loop (dOf c - 1) 0 _ (by omega) hk4 ?_ ?_
  · refine Eq.trans (isLE_ok (b := 0) (r := r) (by first | decide | omega) hk3.2.1) ?_
    simp only [sJ, sD_c, J_nat]
    rfl
  · refine Eq.trans (isLE_ok (b := 0) (r := r) (by first | decide | omega) hk3.2.2) ?_
    simp only [sJ, sD_c, J_nat]
    rfl
noncomputable def LXin (s t p : Nat) : sL := [some (.inr (.inr (some (nat_lit 0)))), some (.inl (.natCast s)), some (.inl (.natCast t)), some (.inl (.natCast p))]
theorem q_inE : allL 4 (fun s => allL 4 (fun t => allL 2 (fun p => sEnt [.inr (.inr (some (nat_lit 0))), .inl (.natCast s), .inl (.natCast t), .inl (.natCast p)] (PG (nat_lit 111)).2.1 (fun L => eqL eqO L (LXin s t p))))) = true := by decide +kernel
theorem q_in1 : allL 4 (fun s => allL 4 (fun t => allL 2 (fun p => sBeg (nat_lit 0) (nat_lit 68) tXv (memB [(nat_lit 0), (nat_lit 35), (Nat.add (nat_lit 36) (Nat.mul (nat_lit 2) s)), (Nat.add (nat_lit 36) (Nat.mul (nat_lit 2) t))]) [((Nat.add (nat_lit 36) (Nat.mul (nat_lit 2) s)), (nat_lit 0), .natCast (nat_lit 1)), ((Nat.add (nat_lit 36) (Nat.mul (nat_lit 2) t)), (nat_lit 0), .natCast (nat_lit 1))] (fun m0 => sx PG (nat_lit 200) (nat_lit 22) (PG (nat_lit 111)) (fun pc => Nat.beq pc (nat_lit 51)) (fun pc L st _ m => Bool.and (eqL eqC m m0) (Bool.and (kAt (nat_lit 51) (LXin s t p) [.inr (.inr (some (Nat.add (nat_lit 37) (Nat.mul (nat_lit 2) t)))), .inr (.inr (some (Nat.add (nat_lit 37) (Nat.mul (nat_lit 2) s)))), .inr (.inr (some (nat_lit 24)))] pc L st) (true))) (fun _ _ m => Bool.and (eqL eqC m m0) false) (nat_lit 0) (LXin s t p) [] [] m0)))) = true := by decide +kernel
theorem q_in2 : allL 4 (fun s => allL 4 (fun t => allL 2 (fun p => sBeg (nat_lit 0) (nat_lit 68) tXv (memB [(nat_lit 28), (nat_lit 29), (nat_lit 30)]) [] (fun m0 => sx PG (nat_lit 200) (nat_lit 22) (PG (nat_lit 111)) (fun _ => false) (fun _ _ _ _ m => Bool.and (eqL eqC m m0) false) (fun v _ m => Bool.and (eqL eqC m m0) (Bool.and (eqO v (some (.inr (.inl (.var (Nat.mul (nat_lit 4096) (Nat.add (nat_lit 29) p))))))) (true))) (nat_lit 54) (LXin s t p) [.inr (.inr (some (nat_lit 28)))] [] m0)))) = true := by decide +kernel
noncomputable def prP (p : Nat) (q : Int × Int) : Int := Nat.rec (motive := fun _ => Int) q.1 (fun _ _ => q.2) p
theorem c_inX (l : Launch) {D : va_G} {cy : Nat → ClassId} {al : Nat → Nat} {rest : va_W} {r : sE} {c s t p : Nat} {x y : Nat → Int} (hc : c < 18) (hs : s < 4) (ht : t < 4) (hp : p < 2) (hcc : cC 0 68 (tX c) r) (s1 : r.1 (xP (36 + 2 * s) 0) = Int32.ofNat 1) (s2 : r.1 (xP (36 + 2 * t) 0) = Int32.ofNat 1) (hx : ∀ k, k < dOf c → (r.1 (xP (37 + 2 * s) k)).toInt = x k) (hy : ∀ k, k < dOf c → (r.1 (xP (37 + 2 * t) k)).toInt = y k) (bx : bd9 (dOf c) x) (by_ : bd9 (dOf c) y) : gMet l D cy al 200 111 (tW r al cy rest 68 tXv) [.ref (al 0), .int (Int32.ofNat s), .int (Int32.ofNat t), .int (Int32.ofNat p)] (fun v w => v = some (.long (Int64.ofInt (prP p (ipF c x y (dOf c))))) ∧ ∃ r1, kp 0 68 tXv r r1 ∧ w = tW r1 al cy rest 68 tXv) := by
  refine gMet_up (d := 22) (by omega) ?_
  have key := gMet_of (l := l) (D := D) (cy := cy) (al := al) (d := 22) (k := 111) (w := tW r al cy rest 68 tXv) (r := r) (G := fun v w => v = some (.long (Int64.ofInt (prP p (ipF c x y (dOf c))))) ∧ ∃ r1, kp 0 68 tXv r r1 ∧ w = tW r1 al cy rest 68 tXv) (allL_ok (allL_ok (allL_ok q_inE s hs) t ht) p hp) (fun At hFC => ?_)
  · rw [show List.map (sVal r al) [.inr (.inr (some (nat_lit 0))), .inl (.natCast s), .inl (.natCast t), .inl (.natCast p)] = [.ref (al 0), .int (Int32.ofNat s), .int (Int32.ofNat t), .int (Int32.ofNat p)] by simp only [List.map_cons, List.map_nil, sVal, sI_c]] at key
    exact key
  have eL : ∀ r' : sE, (LXin s t p).map (Option.map (sVal r' al)) = [some (.ref (al 0)), some (.int (Int32.ofNat s)), some (.int (Int32.ofNat t)), some (.int (Int32.ofNat p))] := fun r' => by
    simp only [LXin, List.map_cons, List.map_nil, Option.map_some, sVal, sI_c]
  refine g_segS hFC (r := r) tXv_ok (cC_X _) sPa_nil (oX_cons (by rw [sI_c]; exact s1) (oX_cons (by rw [sI_c]; exact s2) oX_nil)) (allL_ok (allL_ok (allL_ok q_in1 s hs) t ht) p hp) (fun pc L st pa hk hp => ?_) (fun v pa hk => nomatch hk)
  rw [Bool.and_eq_true] at hk
  obtain ⟨rfl, rfl, rfl⟩ := kAt_ok hk.1
  rw [eL]
  refine hFC.2 51 54 45 21 _ [.ref (al 24), .ref (al (37 + 2 * s)), .ref (al (37 + 2 * t))] [] _ _ ⟨_, _, rfl, rfl⟩ rfl (by decide) rfl (gRecv_x (j := 24) (show 24 < 68 by omega) rfl rfl) (c_ipX l (by omega) hc hs ht hcc hx hy bx by_) (fun v w2 h => ?_)
  obtain ⟨rfl, r2, g1, g2, g3, rfl⟩ := h
  have g := g_segS hFC (r := r2) (al := al) (cy := cy) (rest := rest) tXv_ok (cC_X _) sPa_nil oX_nil (allL_ok (allL_ok (allL_ok q_in2 s hs) t ht) p (by assumption)) (fun pc L st pa hk => nomatch hk) (fun v pa hk hp2 => ?_)
  · rw [eL] at g
    exact g
  rw [Bool.and_eq_true] at hk
  rw [eqO_ok hk.1]
  refine ⟨?_, r2, g1, rfl⟩
  show some (Value.long (sJ r2 (.var (4096 * (29 + p))))) = _
  simp only [sJ, sD_v]
  match p, hp with
  | 0, _ => exact congrArg (fun z => some (Value.long z)) g2
  | 1, _ => exact congrArg (fun z => some (Value.long z)) g3
noncomputable def LY0 (s t p : Nat) : sL := [some (.inr (.inr (some (nat_lit 0)))), some (.inl (.natCast s)), some (.inl (.natCast t)), some (.inl (.natCast p)), none]
noncomputable def LY (s t p k : Nat) : sL := [some (.inr (.inr (some (nat_lit 0)))), some (.inl (.natCast s)), some (.inl (.natCast t)), some (.inl (.natCast p)), some (.inl (.natCast k))]
theorem q_imE : allL 4 (fun s => allL 4 (fun t => allL 2 (fun p => sEnt [.inr (.inr (some (nat_lit 0))), .inl (.natCast s), .inl (.natCast t), .inl (.natCast p)] (PG (nat_lit 205)).2.1 (fun L => eqL eqO L (LY0 s t p))))) = true := by decide +kernel
theorem q_im0 : allL 4 (fun s => allL 4 (fun t => allL 2 (fun p => sBeg (nat_lit 69) (nat_lit 45) tMv (memB [(nat_lit 0), (nat_lit 7)]) [((nat_lit 7), s, .natCast (nat_lit 1)), ((nat_lit 7), t, .natCast (nat_lit 1))] (fun m0 => sx PG (nat_lit 200) (nat_lit 22) (PG (nat_lit 205)) (fun pc => Nat.beq pc (nat_lit 46)) (fun pc L st _ m => Bool.and (eqL eqC m m0) (Bool.and (kAt (nat_lit 46) (LY0 s t p) [.inr (.inr (some (nat_lit 0)))] pc L st) (true))) (fun _ _ m => Bool.and (eqL eqC m m0) false) (nat_lit 0) (LY0 s t p) [] [] m0)))) = true := by decide +kernel
noncomputable def imE (s t k : Nat) : sX := (.pow (.mul (.pow (.mul (.pow (.neg (.var (Nat.add (nat_lit 319488) (Nat.add (Nat.mul (nat_lit 20) s) k)))) (nat_lit 21)) (.pow (.neg (.var (Nat.add (nat_lit 319488) (Nat.add (Nat.mul (nat_lit 20) t) k)))) (nat_lit 21))) (nat_lit 22)) (.var (Nat.add (nat_lit 405504) k))) (nat_lit 22))
theorem q_im1 : allL 18 (fun c => allL 4 (fun s => allL 4 (fun t => allL 2 (fun p => sBeg (nat_lit 69) (nat_lit 45) (tM c) (memB [(nat_lit 0), (nat_lit 9), (nat_lit 30), (nat_lit 31)]) [] (fun m0 => sx PG (nat_lit 200) (nat_lit 22) (PG (nat_lit 205)) (fun pc => Nat.beq pc (nat_lit 114)) (fun pc L st _ m => Bool.and (sKC chMd (nat_lit 69) (nat_lit 45) (tM c) (memB [(nat_lit 0), (nat_lit 9), (nat_lit 30), (nat_lit 31)]) m0 m) (Bool.and (kAt (nat_lit 114) (LY s t p (nat_lit 0)) [.inr (.inl (.var (Nat.add (nat_lit 409600) (nat_lit 0)))), .inr (.inl (imE s t (nat_lit 0))), .inr (.inr (some (nat_lit 0)))] pc L st) (Bool.and (isLE m (nat_lit 0) (nat_lit 35) (.natCast (nat_lit 0))) (isLE m (nat_lit 0) (nat_lit 36) (.natCast (nat_lit 1)))))) (fun _ _ m => Bool.and (sKC chMd (nat_lit 69) (nat_lit 45) (tM c) (memB [(nat_lit 0), (nat_lit 9), (nat_lit 30), (nat_lit 31)]) m0 m) false) (nat_lit 49) (LY0 s t p) [] [] m0))))) = true := by decide +kernel
theorem q_im2 : allL 18 (fun c => allL 4 (fun s => allL 4 (fun t => allL 2 (fun p => allL (dOf c) (fun k => sBeg (nat_lit 69) (nat_lit 45) (tM c) (memB [(nat_lit 0), (nat_lit 9), (nat_lit 30), (nat_lit 31)]) [] (fun m0 => sx PG (nat_lit 200) (nat_lit 22) (PG (nat_lit 205)) (fun pc => Nat.beq pc (nat_lit 114)) (fun pc L st _ m => Bool.and (eqL eqC m m0) (Bool.and (Nat.ble (Nat.succ (Nat.succ k)) (dOf c)) (kAt (nat_lit 114) (LY s t p (Nat.succ k)) [.inr (.inl (.var (Nat.add (nat_lit 409600) (Nat.succ k)))), .inr (.inl (imE s t (Nat.succ k))), .inr (.inr (some (nat_lit 0)))] pc L st))) (fun v _ m => Bool.and (eqL eqC m m0) (Bool.and (Nat.beq (Nat.succ k) (dOf c)) (eqO v (some (.inr (.inl (.var (Nat.add (nat_lit 282659) p)))))))) (nat_lit 117) (LY s t p k) [] [] m0)))))) = true := by decide +kernel
theorem q_imL : allL 6 (fun k => Bool.and (Bool.and (isL (nat_lit 69) (nat_lit 45) tMv (Nat.add (nat_lit 405504) k)) (Bool.not (chMd (Nat.add (nat_lit 405504) k)))) (Bool.and (isL (nat_lit 69) (nat_lit 45) tMv (Nat.add (nat_lit 409600) k)) (Bool.not (chMd (Nat.add (nat_lit 409600) k))))) = true := by decide +kernel
theorem LY_eq {r : sE} {al : Nat → Nat} {s t p k : Nat} : (LY s t p k).map (Option.map (sVal r al)) = [some (.ref (al 0)), some (.int (Int32.ofNat s)), some (.int (Int32.ofNat t)), some (.int (Int32.ofNat p)), some (.int (Int32.ofNat k))] := by
  simp only [LY, List.map_cons, List.map_nil, Option.map_some, sVal, sI_c]
theorem im_st {c s t k : Nat} {x y : Nat → Int} {r : sE} {al : Nat → Nat} (hx : (r.1 (319488 + (20 * s + k))).toInt = x k) (hy : (r.1 (319488 + (20 * t + k))).toInt = y k) (h0 : r.2 (405504 + k) = Int64.ofNat (nN c 0 k)) (h1 : r.2 (409600 + k) = Int64.ofNat (nN c 1 k)) : List.map (sVal r al) [.inr (.inl (.var (Nat.add (nat_lit 409600) k))), .inr (.inl (imE s t k)), .inr (.inr (some (nat_lit 0)))] = ([.ref (al 0), .long (Int64.ofInt (x k * y k * nN c 0 k)), .long (Int64.ofInt (nN c 1 k))] : List Value).reverse ++ [] := by
  have e : sJ r (imE s t k) = Int64.ofInt (x k * y k * nN c 0 k) := by
    unfold imE
    show (sD _ _).2 = _
    rw [sD_b, sD_b]
    show sJ r (.pow (.neg (.var (319488 + (20 * s + k)))) 21) * sJ r (.pow (.neg (.var (319488 + (20 * t + k)))) 21) * sJ r (.var (405504 + k)) = _
    rw [J_i2l hx, J_i2l hy]
    simp only [sJ, sD_v, h0]
    rw [J_nat, ← Int64.ofInt_mul, ← Int64.ofInt_mul]
  have e1 : sJ r (.var (Nat.add (nat_lit 409600) k)) = Int64.ofInt (nN c 1 k) := by
    simp only [sJ, sD_v]
    rw [← J_nat]
    exact h1
  simp only [List.map_cons, List.map_nil, sVal, e, e1]
  rfl
/-- the model's inner -/
theorem c_inM (l : Launch) {D : va_G} {cy : Nat → ClassId} {al : Nat → Nat} {rest : va_W} {r : sE} {c s t p : Nat} {x y : Nat → Int} (hc : c < 18) (hs : s < 4) (ht : t < 4) (hp : p < 2) (hcc : cC 69 45 (tM c) r) (s1 : r.1 (mP 7 s) = Int32.ofNat 1) (s2 : r.1 (mP 7 t) = Int32.ofNat 1) (hx : ∀ k, k < dOf c → (r.1 (319488 + (20 * s + k))).toInt = x k) (hy : ∀ k, k < dOf c → (r.1 (319488 + (20 * t + k))).toInt = y k) (bx : bd9 (dOf c) x) (by_ : bd9 (dOf c) y) : gMet l D cy al 200 205 (tW r al cy rest 45 tMv) [.ref (al 0), .int (Int32.ofNat s), .int (Int32.ofNat t), .int (Int32.ofNat p)] (fun v w => v = some (.long (Int64.ofInt (prP p (ipF c x y (dOf c))))) ∧ ∃ r1, kp 69 45 tMv r r1 ∧ w = tW r1 al cy rest 45 tMv) := by
  refine gMet_up (d := 22) (by omega) ?_
  obtain ⟨d1, d6⟩ := (cd_tab c hc).1
  have key := gMet_of (l := l) (D := D) (cy := cy) (al := al) (d := 22) (k := 205) (w := tW r al cy rest 45 tMv) (r := r) (G := fun v w => v = some (.long (Int64.ofInt (prP p (ipF c x y (dOf c))))) ∧ ∃ r1, kp 69 45 tMv r r1 ∧ w = tW r1 al cy rest 45 tMv) (allL_ok (allL_ok (allL_ok q_imE s hs) t ht) p hp) (fun At hFC => ?_)
  · rw [show List.map (sVal r al) [.inr (.inr (some (nat_lit 0))), .inl (.natCast s), .inl (.natCast t), .inl (.natCast p)] = [.ref (al 0), .int (Int32.ofNat s), .int (Int32.ofNat t), .int (Int32.ofNat p)] by simp only [List.map_cons, List.map_nil, sVal, sI_c]] at key
    exact key
  have eL : ∀ r' : sE, (LY0 s t p).map (Option.map (sVal r' al)) = [some (.ref (al 0)), some (.int (Int32.ofNat s)), some (.int (Int32.ofNat t)), some (.int (Int32.ofNat p)), none] := fun r' => by
    simp only [LY0, List.map_cons, List.map_nil, Option.map_some, Option.map_none, sVal, sI_c]
  have turn : ∀ (k : Nat) (r' : sE), k < dOf c → kp 69 45 tMv r r' → (∀ j, j < dOf c → r'.2 (405504 + j) = Int64.ofNat (nN c 0 j) ∧ r'.2 (409600 + j) = Int64.ofNat (nN c 1 j)) → r'.2 (mP 0 35) = Int64.ofInt (ipF c x y k).1 → r'.2 (mP 0 36) = Int64.ofInt (ipF c x y k).2 → (∀ r2, kp 69 45 tMv r r2 → (∀ j, j < dOf c → r2.2 (405504 + j) = Int64.ofNat (nN c 0 j) ∧ r2.2 (409600 + j) = Int64.ofNat (nN c 1 j)) → r2.2 (mP 0 35) = Int64.ofInt (ipF c x y (k + 1)).1 → r2.2 (mP 0 36) = Int64.ofInt (ipF c x y (k + 1)).2 → At 117 [some (.ref (al 0)), some (.int (Int32.ofNat s)), some (.int (Int32.ofNat t)), some (.int (Int32.ofNat p)), some (.int (Int32.ofNat k))] [] (tW r2 al cy rest 45 tMv)) → At 114 [some (.ref (al 0)), some (.int (Int32.ofNat s)), some (.int (Int32.ofNat t)), some (.int (Int32.ofNat p)), some (.int (Int32.ofNat k))] (([.ref (al 0), .long (Int64.ofInt (x k * y k * nN c 0 k)), .long (Int64.ofInt (nN c 1 k))] : List Value).reverse ++ []) (tW r' al cy rest 45 tMv) := fun k r' hk hk' hN ha hb hK => by
    obtain ⟨u1, u2, u3⟩ := ip_rg hc bx by_ hk
    refine hFC.2 114 117 188 21 _ _ [] _ _ ⟨_, _, rfl, rfl⟩ rfl (by decide) rfl (gRecv_t (by omega) rfl rfl) (c_addM l (by omega) ha hb u1 u2 u3) (fun v w2 h => ?_)
    obtain ⟨rfl, r2, g1, -, g2, g3, rfl⟩ := h
    refine hK r2 (kp_trans hk' (kp_Md g1)) (fun j hj => ?_) g2 g3
    have hq := allL_ok q_imL j (by omega)
    rw [Bool.and_eq_true, Bool.and_eq_true, Bool.and_eq_true] at hq
    obtain ⟨⟨q1, q2⟩, q3, q4⟩ := hq
    have w1 : chMd (Nat.add (nat_lit 405504) j) = false := by
      cases hh : chMd (Nat.add (nat_lit 405504) j) with
      | false => rfl
      | true => rw [hh] at q2; exact nomatch q2
    have w2 : chMd (Nat.add (nat_lit 409600) j) = false := by
      cases hh : chMd (Nat.add (nat_lit 409600) j) with
      | false => rfl
      | true => rw [hh] at q4; exact nomatch q4
    exact ⟨(g1.2.1 _ q1 w1).trans (hN j hj).1, (g1.2.1 _ q3 w2).trans (hN j hj).2⟩
  have loop : ∀ (m k : Nat) (r' : sE), k + (m + 1) = dOf c → kp 69 45 tMv r r' → (∀ j, j < dOf c → r'.2 (405504 + j) = Int64.ofNat (nN c 0 j) ∧ r'.2 (409600 + j) = Int64.ofNat (nN c 1 j)) → r'.2 (mP 0 35) = Int64.ofInt (ipF c x y k).1 → r'.2 (mP 0 36) = Int64.ofInt (ipF c x y k).2 → At 114 [some (.ref (al 0)), some (.int (Int32.ofNat s)), some (.int (Int32.ofNat t)), some (.int (Int32.ofNat p)), some (.int (Int32.ofNat k))] (([.ref (al 0), .long (Int64.ofInt (x k * y k * nN c 0 k)), .long (Int64.ofInt (nN c 1 k))] : List Value).reverse ++ []) (tW r' al cy rest 45 tMv) := by
    intro m
    induction m with
    | zero =>
      intro k r' hm hk' hN ha hb
      refine turn k r' (by omega) hk' hN ha hb (fun r2 kp2 hN2 g2 g3 => ?_)
      have g := g_segS hFC (r := r2) (al := al) (cy := cy) (rest := rest) (tM_ok hc) (kpM_cC hc kp2 hcc) sPa_nil oM_nil (allL_ok (allL_ok (allL_ok (allL_ok (allL_ok q_im2 c hc) s hs) t ht) p hp) k (by omega)) (fun pc L st pa hk hp => ?_) (fun v pa hk hp2 => ?_)
      · rw [LY_eq] at g
        exact g
      · rw [Bool.and_eq_true] at hk
        have := Nat.le_of_ble_eq_true hk.1
        have e : k + 2 ≤ dOf c := this
        omega
      · rw [Bool.and_eq_true] at hk
        rw [eqO_ok hk.2]
        have e : k + 1 = dOf c := by omega
        rw [e] at g2 g3
        refine ⟨?_, r2, kp2, rfl⟩
        show some (Value.long (sJ r2 (.var (282659 + p)))) = _
        simp only [sJ, sD_v]
        match p, hp with
        | 0, _ => exact congrArg (fun z => some (Value.long z)) g2
        | 1, _ => exact congrArg (fun z => some (Value.long z)) g3
    | succ m ih =>
      intro k r' hm hk' hN ha hb
      refine turn k r' (by omega) hk' hN ha hb (fun r2 kp2 hN2 g2 g3 => ?_)
      have g := g_segS hFC (r := r2) (al := al) (cy := cy) (rest := rest) (tM_ok hc) (kpM_cC hc kp2 hcc) sPa_nil oM_nil (allL_ok (allL_ok (allL_ok (allL_ok (allL_ok q_im2 c hc) s hs) t ht) p hp) k (by omega)) (fun pc L st pa hk hp => ?_) (fun v pa hk hp2 => ?_)
      · rw [LY_eq] at g
        exact g
      · rw [Bool.and_eq_true] at hk
        obtain ⟨rfl, rfl, rfl⟩ := kAt_ok hk.2
        rw [LY_eq]
        have e2 := im_st (c := c) (s := s) (t := t) (k := k + 1) (x := x) (y := y) (r := r2) (al := al) (by rw [ip_kpM hs (by omega) kp2]; exact hx _ (by omega)) (by rw [ip_kpM ht (by omega) kp2]; exact hy _ (by omega)) (hN2 (k + 1) (by omega)).1 (hN2 (k + 1) (by omega)).2
        have e3 : Nat.succ k = k + 1 := rfl
        rw [e3, e2]
        exact ih (k + 1) r2 (by omega) kp2 hN2 g2 g3
      · rw [Bool.and_eq_true] at hk
        have := Nat.eq_of_beq_eq_true hk.1
        have e : k + 1 = dOf c := this
        omega
  refine g_segS hFC (r := r) tMv_ok (cC_M _) sPa_nil (oM_cons (by rw [sI_c]; exact s1) (oM_cons (by rw [sI_c]; exact s2) oM_nil)) (allL_ok (allL_ok (allL_ok q_im0 s hs) t ht) p hp) (fun pc L st pa hk hp => ?_) (fun v pa hk => nomatch hk)
  rw [Bool.and_eq_true] at hk
  obtain ⟨rfl, rfl, rfl⟩ := kAt_ok hk.1
  rw [eL]
  refine hFC.2 46 49 196 21 _ [.ref (al 0)] [] _ _ ⟨_, _, rfl, rfl⟩ rfl (by decide) rfl (gRecv_t (by omega) rfl rfl) (c_nrm l (by omega) hc hcc) (fun v w2 h => ?_)
  obtain ⟨r2, g1, g2, rfl, rfl⟩ := h
  have g := g_segH hFC (al := al) (cy := cy) (rest := rest) (r := r2) (by omega) (tM_ok hc) (kpM_cC hc g1 hcc) sPa_nil oM_nil (allL_ok (allL_ok (allL_ok (allL_ok q_im1 c hc) s hs) t ht) p (by assumption)) (fun m0 pc L st pa m hk3 hp2 hk4 hH => ?_) (fun m0 v pa m hk => nomatch hk)
  · rw [eL] at g
    exact g
  rw [Bool.and_eq_true, Bool.and_eq_true] at hk3
  obtain ⟨rfl, rfl, rfl⟩ := kAt_ok hk3.1
  rw [LY_eq, im_st (c := c) (x := x) (y := y) (by rw [ip_kpM hs (by omega) g1]; exact hx 0 (by omega)) (by rw [ip_kpM ht (by omega) g1]; exact hy 0 (by omega)) (g2 0 (by omega)).1 (g2 0 (by omega)).2]
  refine loop (dOf c - 1) 0 _ (by omega) (kp_trans g1 (kp_Md hk4)) (fun j hj => ?_) ?_ ?_
  · have hq := allL_ok q_imL j (by omega)
    rw [Bool.and_eq_true, Bool.and_eq_true, Bool.and_eq_true] at hq
    obtain ⟨⟨q1, q2⟩, q3, q4⟩ := hq
    have w1 : chMd (Nat.add (nat_lit 405504) j) = false := by
      cases hh : chMd (Nat.add (nat_lit 405504) j) with
      | false => rfl
      | true => rw [hh] at q2; exact nomatch q2
    have w2 : chMd (Nat.add (nat_lit 409600) j) = false := by
      cases hh : chMd (Nat.add (nat_lit 409600) j) with
      | false => rfl
      | true => rw [hh] at q4; exact nomatch q4
    exact ⟨(hk4.2.1 _ q1 w1).trans (g2 j hj).1, (hk4.2.1 _ q3 w2).trans (g2 j hj).2⟩
  · refine Eq.trans (isLE_ok (b := 69) (r := r2) (by first | decide | omega) hk3.2.1) ?_
    simp only [sJ, sD_c, J_nat]
    rfl
  · refine Eq.trans (isLE_ok (b := 69) (r := r2) (by first | decide | omega) hk3.2.2) ?_
    simp only [sJ, sD_c, J_nat]
    rfl
noncomputable def KXin (a0 a1 : Nat) : Nat → Bool := memB [(nat_lit 0), (nat_lit 35), (Nat.add (nat_lit 36) (Nat.mul (nat_lit 2) (shC a0))), (Nat.add (nat_lit 36) (Nat.mul (nat_lit 2) (shC a1)))]
noncomputable def KMin : Nat → Bool := memB [(nat_lit 0), (nat_lit 7)]
theorem crJ_in : allL 6 (fun a0 => allL 6 (fun a1 => crJ (KXin a0 a1) KMin scQ)) = true := by decide +kernel
noncomputable def inZ (a0 a1 a2 u v : Nat) : Bool := jRun (nat_lit 100000) (nat_lit 200) tXv tXv tMv tMv (nat_lit 111) (nat_lit 205) (KXin a0 a1) KMin [((Nat.add (nat_lit 36) (Nat.mul (nat_lit 2) (shC a0))), (nat_lit 0), .natCast u), ((Nat.add (nat_lit 36) (Nat.mul (nat_lit 2) (shC a1))), (nat_lit 0), .natCast v)] [((nat_lit 7), shC a0, .natCast u), ((nat_lit 7), shC a1, .natCast v)] (dP (nat_lit 819200) (nat_lit 0) (nat_lit 4) a0 (dP (nat_lit 819201) (nat_lit 0) (nat_lit 4) a1 (dP (nat_lit 819202) (nat_lit 0) (nat_lit 2) a2 []))) [.inl (dA (nat_lit 819200) (nat_lit 0) (nat_lit 4) a0), .inl (dA (nat_lit 819201) (nat_lit 0) (nat_lit 4) a1), .inl (dA (nat_lit 819202) (nat_lit 0) (nat_lit 2) a2)] (fun x0 m0 pa x m => frJ scQ x0 m0 x m)
noncomputable def inG (a0 a1 a2 u v : Nat) : Bool := Bool.and (Bool.and (Nat.ble (nat_lit 2) a0) (Nat.ble (nat_lit 2) a1)) (Bool.and (Nat.ble (nat_lit 2) a2) (Bool.and (Nat.beq u (nat_lit 1)) (Nat.beq v (nat_lit 1))))
noncomputable def inN (a0 a1 u v : Nat) : Bool := Bool.and (Nat.beq (shC a0) (shC a1)) (Bool.not (Nat.beq u v))
theorem q_inZ : allL 6 (fun a0 => allL 6 (fun a1 => allL 4 (fun a2 => allL 3 (fun u => allL 3 (fun v => Bool.or (inN a0 a1 u v) (Bool.or (inG a0 a1 a2 u v) (inZ a0 a1 a2 u v))))))) = true := by decide +kernel
theorem kd_111 : (PG 111).2.2.2.2 = 3 := by decide +kernel
theorem op_inner {l : Launch} {D : va_G} {cy : Nat → ClassId} {alX alM : Nat → Nat} : OpI l D cy alX alM 111 205 3 := by
  intro r as hI hlen
  obtain ⟨a0, a1, a2, rfl⟩ : ∃ a0 a1 a2, as = [a0, a1, a2] := by
    match as, hlen with
    | [a0, a1, a2], _ => exact ⟨a0, a1, a2, rfl⟩
  refine OpOk_uA [a0, a1, a2] ?_
  replace hI := Inv_uA (as := [a0, a1, a2]) hI
  have e0 : (uA r [a0, a1, a2]).1 819200 = a0 := uA_a 0
  have e1 : (uA r [a0, a1, a2]).1 819201 = a1 := uA_a 1
  have e2 : (uA r [a0, a1, a2]).1 819202 = a2 := uA_a 2
  generalize uA r [a0, a1, a2] = r at hI e0 e1 e2 ⊢
  obtain ⟨c0, hc0, hp0, hv0⟩ := dP_ok r 819200 (lo := 0) (n := 4) (Or.inr (by omega)) (by omega)
  rw [e0] at hv0
  obtain ⟨c1, hc1, hp1, hv1⟩ := dP_ok r 819201 (lo := 0) (n := 4) (Or.inr (by omega)) (by omega)
  rw [e1] at hv1
  obtain ⟨c2, hc2, hp2, hv2⟩ := dP_ok r 819202 (lo := 0) (n := 2) (Or.inr (by omega)) (by omega)
  rw [e2] at hv2
  obtain ⟨c, hc, hcc, hcm⟩ := id hI
  obtain ⟨d1, d6⟩ := (cd_tab c hc).1
  have hs : c0 - 2 < 4 := by omega
  have ht : c1 - 2 < 4 := by omega
  have hS := hcm (4 + (c0 - 2)) (by omega)
  rw [Comp_S hs] at hS
  have hT := hcm (4 + (c1 - 2)) (by omega)
  rw [Comp_S ht] at hT
  obtain ⟨u, hu, u1, u2⟩ := cS_sort hS
  obtain ⟨v, hv, v1, v2⟩ := cS_sort hT
  have hq := allL_ok (allL_ok (allL_ok (allL_ok (allL_ok q_inZ c0 hc0) c1 hc1) c2 hc2) u hu) v hv
  rw [Bool.or_eq_true, Bool.or_eq_true] at hq
  rcases hq with hq | hq | hq
  · unfold inN at hq
    rw [Bool.and_eq_true] at hq
    have e : c0 - 2 = c1 - 2 := Nat.eq_of_beq_eq_true hq.1
    rw [e, v1] at u1
    have : v = u := n32_inj (by omega) (by omega) u1
    subst this
    have h2 := hq.2
    rw [Nat.beq_refl] at h2
    exact nomatch h2
  · unfold inG at hq
    simp only [Bool.and_eq_true] at hq
    obtain ⟨⟨b0, b1⟩, b2, b3, b4⟩ := hq
    have b0 : 2 ≤ c0 := Nat.le_of_ble_eq_true b0
    have b1 : 2 ≤ c1 := Nat.le_of_ble_eq_true b1
    have b2 : 2 ≤ c2 := Nat.le_of_ble_eq_true b2
    have b3 : u = 1 := Nat.eq_of_beq_eq_true b3
    have b4 : v = 1 := Nat.eq_of_beq_eq_true b4
    subst b3 b4
    obtain ⟨s, rfl⟩ : ∃ k, c0 = k + 2 := ⟨c0 - 2, by omega⟩
    obtain ⟨t, rfl⟩ : ∃ k, c1 = k + 2 := ⟨c1 - 2, by omega⟩
    obtain ⟨p, rfl⟩ : ∃ k, c2 = k + 2 := ⟨c2 - 2, by omega⟩
    simp only [Nat.add_sub_cancel] at *
    have f0 : a0 = Int32.ofNat s := by rw [← hv0, dA_c (by omega)]
    have f1 : a1 = Int32.ofNat t := by rw [← hv1, dA_c (by omega)]
    have f2 : a2 = Int32.ofNat p := by rw [← hv2, dA_c (by omega)]
    subst f0 f1 f2
    have good : ∀ s, s < 4 → cS (xP (36 + 2 * s) 0) (xP (36 + 2 * s) 1) (xP (37 + 2 * s) 0) (mP 7 s) (mP 8 s) (mP 9 (20 * s)) r → r.1 (xP (36 + 2 * s) 0) = Int32.ofNat 1 → ∀ k, k < 20 → r.1 (319488 + (20 * s + k)) = r.1 (xP (37 + 2 * s) k) ∧ (r.1 (xP (37 + 2 * s) k)).toInt.natAbs ≤ 999 := fun s hs h h1 k hk => by
      obtain ⟨-, g | ⟨-, g1, g2⟩ | ⟨g, -⟩⟩ := h
      · rw [h1] at g
        exact absurd g (by decide)
      · have q1 := g1 k hk
        obtain ⟨q2, q3⟩ := g2 k hk
        rw [Int32.le_iff_toInt_le] at q2 q3
        have q4 : (-999 : Int32).toInt = -999 := by decide
        have q5 : (999 : Int32).toInt = 999 := by decide
        rw [q4] at q2
        rw [q5] at q3
        have ex : xP (37 + 2 * s) 0 + k = xP (37 + 2 * s) k := by unfold xP; omega
        have em : mP 9 (20 * s) + k = 319488 + (20 * s + k) := by unfold mP; omega
        rw [ex] at q1 q2 q3
        rw [em] at q1
        exact ⟨q1, by omega⟩
      · rw [h1] at g
        exact absurd g (by decide)
    have gs := good s hs hS u1
    have gt := good t ht hT v1
    exact OpOk_V (V := some (.long (Int64.ofInt (prP p (ipF c (fun k => (r.1 (xP (37 + 2 * s) k)).toInt) (fun k => (r.1 (xP (37 + 2 * t) k)).toInt) (dOf c)))))) hI
      (fun rest => c_inX l hc hs ht (by omega) hcc.1 u1 v1 (fun k _ => rfl) (fun k _ => rfl) (fun k hk => (gs k (by omega)).2) (fun k hk => (gt k (by omega)).2))
      (fun rest => c_inM l hc hs ht (by omega) hcc.2 u2 v2 (fun k hk => by rw [(gs k (by omega)).1]) (fun k hk => by rw [(gt k (by omega)).1]) (fun k hk => (gs k (by omega)).2) (fun k hk => (gt k (by omega)).2)) (Or.inr ⟨kd_111, _, rfl⟩)
  · refine jOk l tXv_ok tXv_ok tMv_ok tMv_ok (cC_X r) (cC_M r) (hp0 _ (hp1 _ (hp2 _ sPa_nil))) (fun _ _ _ => rfl) (fun _ _ _ => rfl) (oX_cons (by rw [sI_c]; exact u1) (oX_cons (by rw [sI_c]; exact v1) oX_nil)) (oM_cons (by rw [sI_c]; exact u2) (oM_cons (by rw [sI_c]; exact v2) oM_nil)) ?_ ?_ hq (fun x0 m0 pa x m hx0 hm0 hck hp hfx hfm _ _ => Inv_qv (allL_ok (allL_ok crJ_in c0 hc0) c1 hc1) hx0 hm0 hfx hfm hck hI)
    · simp only [List.map_cons, List.map_nil, sVal, hv0, hv1, hv2]
    · simp only [List.map_cons, List.map_nil, sVal, hv0, hv1, hv2]
