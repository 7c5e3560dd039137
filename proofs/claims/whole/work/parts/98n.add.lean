/-! 98n: fractions are added: the class' add, the model's lowers and addsTo (by wip/whole/mk98n.py) -/
theorem g_segH {Ch : Nat → Bool} {l : Launch} {D : va_G} {cy : Nat → ClassId} {al : Nat → Nat} {rest : va_W} {r : sE} {b n fuel d k pc : Nat} {L : sL} {st : List sV} {t tv : Nat → sC} {K : Nat → Bool} {ovs : List sOv} {pa : List sK} {stop : Nat → Bool} {ks : sM → sKs} {kr : sM → sKr} {Rt : Option Value → va_W → Prop} {At : gAt} (hFC : gFC l D cy al k d Rt At) (hb : b + n ≤ 200) (ht : tOk b n t tv) (hct : cC b n t r) (hp : sPa r pa) (hov : ∀ q ∈ ovs, r.1 (4096 * (b + q.1) + q.2.1) = sI r q.2.2)
    (h : sBeg b n t K ovs (fun m0 => sx PG fuel d (PG k) stop (fun pc L st pa m => Bool.and (sKC Ch b n t K m0 m) (ks m0 pc L st pa m)) (fun v pa m => Bool.and (sKC Ch b n t K m0 m) (kr m0 v pa m)) pc L st pa m0) = true)
    (hS : ∀ (m0 : sM) (pc : Nat) (L : sL) (st : List sV) (pa : List sK) (m : sM), ks m0 pc L st pa m = true → sPa r pa → kpC Ch b n tv r (eOf b r m) → (∀ v, 819200 ≤ v → (eOf b r m).1 v = r.1 v ∧ (eOf b r m).2 v = r.2 v) → At pc (L.map (Option.map (sVal r al))) (st.map (sVal r al)) (tW (eOf b r m) al cy rest n tv))
    (hR : ∀ (m0 : sM) (v : Option sV) (pa : List sK) (m : sM), kr m0 v pa m = true → sPa r pa → kpC Ch b n tv r (eOf b r m) → (∀ v, 819200 ≤ v → (eOf b r m).1 v = r.1 v ∧ (eOf b r m).2 v = r.2 v) → Rt (v.map (sVal r al)) (tW (eOf b r m) al cy rest n tv)) : At pc (L.map (Option.map (sVal r al))) (st.map (sVal r al)) (tW r al cy rest n tv) := by
  unfold sBeg at h
  rw [Bool.and_eq_true] at h
  have hP := ovP_ovr (b := b) (ovP_msk (r := r) (al := al) (n := n) (t := t) (K := K)) ovs h.1 hov
  have hw := ovP_w (cy := cy) (rest := rest) (fun i hi => (ht i hi).1.1) hP
  rw [← cC_w (fun i hi => (ht i hi).2) hct, ← hw]
  have back : ∀ m : sM, sKC Ch b n t K (ovr ovs (msk n t K)) m = true → sW r al cy (mHid r al cy t) rest m = tW (eOf b r m) al cy rest n tv ∧ kpC Ch b n tv r (eOf b r m) ∧ ∀ v, 819200 ≤ v → (eOf b r m).1 v = r.1 v ∧ (eOf b r m).2 v = r.2 v := fun m h1 => by
    unfold sKC at h1
    rw [Bool.and_eq_true] at h1
    rw [fit_w h1.1 (fun i hi hK => ⟨rfl, (ht i hi).1.2⟩), cC_w (fun i hi => (ht i hi).2) (cC_fit h1.1 (fun _ _ _ => rfl) hct (fun i hi => (ht i hi).1))]
    exact ⟨rfl, kpC_run hb ht hct hP h1.1 h1.2, fun v hv => eOf_hi (by rw [(fitM_ok h1.1).1]; omega)⟩
  refine hFC.1 r _ rest _ _ _ _ pc L st pa _ h.2 hp (fun pc L st pa m hk hp => ?_) (fun v pa m hk hp => ?_)
  · rw [Bool.and_eq_true] at hk
    obtain ⟨g1, g2, g3⟩ := back m hk.1
    rw [g1]
    exact hS _ pc L st pa m hk.2 hp g2 g3
  · rw [Bool.and_eq_true] at hk
    obtain ⟨g1, g2, g3⟩ := back m hk.1
    rw [g1]
    exact hR _ v pa m hk.2 hp g2 g3
/-- longs at 819290 and on -/
def uN (r : sE) (l : List Int64) : sE := (r.1, fun v => if 819290 ≤ v then l.getD (v - 819290) 0 else r.2 v)
theorem uN_v {r : sE} {l : List Int64} (i : Nat) : sJ (uN r l) (.var (819290 + i)) = l.getD i 0 := by
  show (sD _ _).2 = _
  rw [sD_v]
  show (if 819290 ≤ 819290 + i then l.getD (819290 + i - 819290) 0 else r.2 (819290 + i)) = _
  rw [if_pos (by omega), Nat.add_sub_cancel_left]
theorem uN_lo {r : sE} {l : List Int64} {v : Nat} (h : v < 819290) : (uN r l).2 v = r.2 v := by
  show (if 819290 ≤ v then l.getD (v - 819290) 0 else r.2 v) = _
  rw [if_neg (by omega)]
theorem tW_uN {r : sE} {l : List Int64} {al : Nat → Nat} {cy : Nat → ClassId} {rest : va_W} {b n : Nat} {t : Nat → sC} (hb : b + n ≤ 200) (hcan : ∀ i, i < n → (t i).1 ≤ 6 ∧ fitC (b + i) (t i) (t i) = true) : tW (uN r l) al cy rest n t = tW r al cy rest n t := tW_agree hb hcan (fun v hv => ⟨rfl, uN_lo (by omega)⟩)
theorem kpC_uN {Ch : Nat → Bool} {r : sE} {l : List Int64} {b n : Nat} {tv : Nat → sC} (hb : b + n ≤ 200) : kpC Ch b n tv r (uN r l) := ⟨fun _ _ _ => rfl, fun u hu _ => uN_lo (by have := (isL_ok hu).2.1; omega), fun u _ h2 => ⟨rfl, uN_lo (by omega)⟩⟩
/-- the sum of two fractions, in lowest terms -/
def frU (a b c d : Int) : Int := a * d + c * b
def frG (a b c d : Int) : Nat := Nat.gcd (frU a b c d).natAbs (b * d).natAbs
def frA (a b c d : Int) : Int := (frU a b c d).tdiv (frG a b c d) * (b * d).sign
def frB (a b c d : Int) : Int := (b * d).tdiv (frG a b c d) * (b * d).sign
theorem frG_pos {a b c d : Int} (h0 : b * d ≠ 0) : 0 < frG a b c d := Nat.gcd_pos_of_pos_right _ (by omega)
theorem frG_le {a b c d : Int} (h0 : b * d ≠ 0) : frG a b c d ≤ (b * d).natAbs := Nat.gcd_le_right _ (by omega)
theorem zJ_div {x : Int} {g : Nat} (hx : x.natAbs < 9223372036854775808) (hg : g < 9223372036854775808) : Int64.ofInt x / Int64.ofNat g = Int64.ofInt (x.tdiv g) := by
  rw [← Int64.ofInt_eq_ofNat, Int64.ofInt_tdiv]
  all_goals first | (show (-9223372036854775808 : Int) ≤ _; omega) | (show _ ≤ (9223372036854775807 : Int); omega)
theorem zJ_divn {x : Int} {g : Nat} (hx : x.natAbs < 9223372036854775808) (hg : g < 9223372036854775808) : Int64.ofInt x / -Int64.ofNat g = Int64.ofInt (-x.tdiv g) := by
  rw [← Int64.ofInt_eq_ofNat, ← Int64.ofInt_neg, ← Int.tdiv_neg, Int64.ofInt_tdiv]
  all_goals first | (show (-9223372036854775808 : Int) ≤ _; omega) | (show _ ≤ (9223372036854775807 : Int); omega)
theorem sg_sh {z : Int} (hz : z.natAbs < 9223372036854775808) : Int64.ofInt z >>> ((Int32.ofNat 63).toInt64 &&& 63) = Int64.ofInt (if z < 0 then -1 else 0) := by
  rw [← Int64.toBitVec_inj]
  show (Int64.ofInt z).toBitVec.sshiftRight (((Int32.ofNat 63).toInt64 &&& 63).toBitVec.smod 64).toNat = _
  rw [show (((Int32.ofNat 63).toInt64 &&& 63).toBitVec.smod 64).toNat = 63 by decide +kernel, BitVec.sshiftRight_eq]
  have e : (Int64.ofInt z).toBitVec.toInt = z := zJ hz
  rw [e, Int.shiftRight_eq_div_pow]
  by_cases h : z < 0
  · rw [if_pos h, show z / ((2 ^ 63 : Nat) : Int) = -1 by omega]
    rfl
  · rw [if_neg h, show z / ((2 ^ 63 : Nat) : Int) = 0 by omega]
    rfl
theorem sg_us {z : Int} (hz : z.natAbs < 9223372036854775808) : ((-Int64.ofInt z).toUInt64 >>> ((Int32.ofNat 63).toInt64.toUInt64 &&& Int64.toUInt64 63)).toInt64 = Int64.ofInt (if 0 < z then 1 else 0) := by
  rw [← Int64.ofInt_neg, ← Int64.toBitVec_inj]
  apply BitVec.eq_of_toNat_eq
  show ((Int64.ofInt (-z)).toUInt64 >>> ((Int32.ofNat 63).toInt64.toUInt64 &&& Int64.toUInt64 63)).toNat = _
  rw [UInt64.toNat_shiftRight, show ((Int32.ofNat 63).toInt64.toUInt64 &&& Int64.toUInt64 63).toNat % 64 = 63 by decide +kernel]
  show (BitVec.ofInt 64 (-z)).toNat >>> 63 = _
  rw [BitVec.toNat_ofInt, Nat.shiftRight_eq_div_pow]
  by_cases h : 0 < z
  · rw [if_pos h, show ((Int64.ofInt 1).toBitVec.toNat) = 1 by decide +kernel]
    have : ((-z) % ((2 ^ 64 : Nat) : Int)) = 18446744073709551616 - z := by omega
    rw [this]
    omega
  · rw [if_neg h, show ((Int64.ofInt 0).toBitVec.toNat) = 0 by decide +kernel]
    have : ((-z) % ((2 ^ 64 : Nat) : Int)) = -z := by omega
    rw [this]
    omega
theorem sg_all : ∀ p q : Bool, (p && q) = false → (Int64.ofInt (if p then -1 else 0) ||| Int64.ofInt (if q then 1 else 0)).toInt32.toInt64 = Int64.ofInt (if p then -1 else if q then 1 else 0) := by decide +kernel
noncomputable def sgE (u : Nat) : sX := (.pow (.neg (.pow (.neg (.pow (.mul (.pow (.mul (.var u) (.natCast (nat_lit 63))) (nat_lit 27)) (.pow (.mul (.pow (.neg (.var u)) (nat_lit 20)) (.natCast (nat_lit 63))) (nat_lit 28))) (nat_lit 24))) (nat_lit 4))) (nat_lit 21))
theorem sgE_ok {r : sE} {u : Nat} {z : Int} (hz : z.natAbs < 9223372036854775808) (hu : sJ r (.var u) = Int64.ofInt z) : sJ r (sgE u) = Int64.ofInt z.sign := by
  have e1 : sJ r (.pow (.mul (.var u) (.natCast 63)) 27) = Int64.ofInt (if z < 0 then -1 else 0) := by
    show (sD _ _).2 = _
    rw [sD_b]
    show sJ r (.var u) >>> ((sI r (.natCast 63)).toInt64 &&& 63) = _
    rw [hu, sI_c]
    exact sg_sh hz
  have e2 : sJ r (.pow (.mul (.pow (.neg (.var u)) 20) (.natCast 63)) 28) = Int64.ofInt (if 0 < z then 1 else 0) := by
    show (sD _ _).2 = _
    rw [sD_b, sD_u]
    show ((-sJ r (.var u)).toUInt64 >>> ((sI r (.natCast 63)).toInt64.toUInt64 &&& Int64.toUInt64 63)).toInt64 = _
    rw [hu, sI_c]
    exact sg_us hz
  show (sD r (.pow (.neg (.pow (.neg (.pow (.mul (.pow (.mul (.var u) (.natCast 63)) 27) (.pow (.mul (.pow (.neg (.var u)) 20) (.natCast 63)) 28)) 24)) 4)) 21)).2 = _
  rw [sD_u, sD_u, sD_b]
  show (sJ r (.pow (.mul (.var u) (.natCast 63)) 27) ||| sJ r (.pow (.mul (.pow (.neg (.var u)) 20) (.natCast 63)) 28)).toInt32.toInt64 = _
  rw [e1, e2]
  have := sg_all (decide (z < 0)) (decide (0 < z)) (by
    cases h1 : decide (z < 0) with
    | false => rfl
    | true =>
      have := of_decide_eq_true h1
      exact decide_eq_false (by omega))
  simp only [decide_eq_true_eq] at this
  rw [this]
  congr 1
  rcases Int.lt_trichotomy z 0 with h | h | h
  · rw [if_pos h, Int.sign_eq_neg_one_of_neg h]
  · subst h
    rfl
  · rw [if_neg (by omega), if_pos h, Int.sign_eq_one_of_pos h]
noncomputable def LAd0 (f i : Nat) : sL := [some (.inr (.inr (some (Nat.add (nat_lit 28) (Nat.mul (nat_lit 3) f))))), some (.inl (.natCast i)), some (.inr (.inl (.var (nat_lit 819290)))), none, some (.inr (.inl (.var (nat_lit 819291)))), none, none, none, none, none, none, none, none, none]
noncomputable def LAd1 (f i : Nat) : sL := [some (.inr (.inr (some (Nat.add (nat_lit 28) (Nat.mul (nat_lit 3) f))))), some (.inl (.natCast i)), some (.inr (.inl (.var (nat_lit 819290)))), none, some (.inr (.inl (.var (nat_lit 819291)))), none, some (.inr (.inl (.pow (.mul (.pow (.mul (.var (Nat.add (Nat.mul (nat_lit 4096) (Nat.add (nat_lit 29) (Nat.mul (nat_lit 3) f))) i)) (.var (nat_lit 819291))) (nat_lit 22)) (.pow (.mul (.var (nat_lit 819290)) (.var (Nat.add (Nat.mul (nat_lit 4096) (Nat.add (nat_lit 30) (Nat.mul (nat_lit 3) f))) i))) (nat_lit 22))) (nat_lit 20)))), none, some (.inr (.inl (.pow (.mul (.var (Nat.add (Nat.mul (nat_lit 4096) (Nat.add (nat_lit 30) (Nat.mul (nat_lit 3) f))) i)) (.var (nat_lit 819291))) (nat_lit 22)))), none, none, none, none, none]
noncomputable def LAd2 (f i : Nat) : sL := [some (.inr (.inr (some (Nat.add (nat_lit 28) (Nat.mul (nat_lit 3) f))))), some (.inl (.natCast i)), some (.inr (.inl (.var (nat_lit 819290)))), none, some (.inr (.inl (.var (nat_lit 819291)))), none, some (.inr (.inl (.var (nat_lit 819292)))), none, some (.inr (.inl (.var (nat_lit 819293)))), none, none, none, none, none]
noncomputable def LAd3 (f i : Nat) : sL := [some (.inr (.inr (some (Nat.add (nat_lit 28) (Nat.mul (nat_lit 3) f))))), some (.inl (.natCast i)), some (.inr (.inl (.var (nat_lit 819290)))), none, some (.inr (.inl (.var (nat_lit 819291)))), none, some (.inr (.inl (.var (nat_lit 819292)))), none, some (.inr (.inl (.var (nat_lit 819293)))), none, some (.inr (.inl (.var (nat_lit 819294)))), none, some (.inr (.inl (sgE (nat_lit 819293)))), none]
noncomputable def LAd4 (f i : Nat) : sL := [some (.inr (.inr (some (Nat.add (nat_lit 28) (Nat.mul (nat_lit 3) f))))), some (.inl (.natCast i)), some (.inr (.inl (.var (nat_lit 819290)))), none, some (.inr (.inl (.var (nat_lit 819291)))), none, some (.inr (.inl (.var (nat_lit 819292)))), none, some (.inr (.inl (.var (nat_lit 819293)))), none, some (.inr (.inl (.var (nat_lit 819294)))), none, some (.inr (.inl (.var (nat_lit 819295)))), none]
noncomputable def chA1 (f i u : Nat) : Bool := Nat.beq u (Nat.add (Nat.mul (nat_lit 4096) (Nat.add (nat_lit 29) (Nat.mul (nat_lit 3) f))) i)
noncomputable def chA2 (f i u : Nat) : Bool := Nat.beq u (Nat.add (Nat.mul (nat_lit 4096) (Nat.add (nat_lit 30) (Nat.mul (nat_lit 3) f))) i)
noncomputable def chAd (f i u : Nat) : Bool := Bool.or (chA1 f i u) (chA2 f i u)
theorem q_adE : allL 2 (fun f => allL 6 (fun i => sEnt [.inr (.inr (some (Nat.add (nat_lit 28) (Nat.mul (nat_lit 3) f)))), .inl (.natCast i), .inr (.inl (.var (nat_lit 819290))), .inr (.inl (.var (nat_lit 819291)))] (PG (nat_lit 2)).2.1 (fun L => eqL eqO L (LAd0 f i)))) = true := by decide +kernel
theorem q_ad1 : allL 2 (fun f => allL 6 (fun i => sBeg (nat_lit 0) (nat_lit 68) tXv (memB [(Nat.add (nat_lit 28) (Nat.mul (nat_lit 3) f)), (Nat.add (nat_lit 29) (Nat.mul (nat_lit 3) f)), (Nat.add (nat_lit 30) (Nat.mul (nat_lit 3) f))]) [] (fun m0 => sx PG (nat_lit 200) (nat_lit 20) (PG (nat_lit 2)) (fun pc => Nat.beq pc (nat_lit 35)) (fun pc L st _ m => Bool.and (eqL eqC m m0) (Bool.and (kAt (nat_lit 35) (LAd1 f i) [.inr (.inl (.pow (.mul (.var (Nat.add (Nat.mul (nat_lit 4096) (Nat.add (nat_lit 30) (Nat.mul (nat_lit 3) f))) i)) (.var (nat_lit 819291))) (nat_lit 22))), .inr (.inl (.pow (.mul (.pow (.mul (.var (Nat.add (Nat.mul (nat_lit 4096) (Nat.add (nat_lit 29) (Nat.mul (nat_lit 3) f))) i)) (.var (nat_lit 819291))) (nat_lit 22)) (.pow (.mul (.var (nat_lit 819290)) (.var (Nat.add (Nat.mul (nat_lit 4096) (Nat.add (nat_lit 30) (Nat.mul (nat_lit 3) f))) i))) (nat_lit 22))) (nat_lit 20)))] pc L st) (true))) (fun _ _ m => Bool.and (eqL eqC m m0) false) (nat_lit 0) (LAd0 f i) [] [] m0))) = true := by decide +kernel
theorem q_ad2 : allL 2 (fun f => allL 6 (fun i => sBeg (nat_lit 0) (nat_lit 68) tXv (memB [(Nat.add (nat_lit 28) (Nat.mul (nat_lit 3) f)), (Nat.add (nat_lit 29) (Nat.mul (nat_lit 3) f)), (Nat.add (nat_lit 30) (Nat.mul (nat_lit 3) f))]) [] (fun m0 => sx PG (nat_lit 200) (nat_lit 20) (PG (nat_lit 2)) (fun pc => Nat.beq pc (nat_lit 72)) (fun pc L st _ m => Bool.and (eqL eqC m m0) (Bool.and (kAt (nat_lit 72) (LAd3 f i) [.inr (.inl (.var (nat_lit 819294))), .inr (.inl (.var (nat_lit 819292))), .inl (.natCast i), .inr (.inr (some (Nat.add (nat_lit 29) (Nat.mul (nat_lit 3) f))))] pc L st) (true))) (fun _ _ m => Bool.and (eqL eqC m m0) false) (nat_lit 38) (LAd2 f i) [.inr (.inl (.var (nat_lit 819294)))] [(true, false, (.pow (.mul (.var (nat_lit 819294)) (.natCast (nat_lit 0))) (nat_lit 10)), (.natCast (nat_lit 0))), (true, false, (.pow (.mul (.var (nat_lit 819293)) (.natCast (nat_lit 0))) (nat_lit 10)), (.natCast (nat_lit 0)))] m0))) = true := by decide +kernel
theorem q_ad3 : allL 2 (fun f => allL 6 (fun i => sBeg (nat_lit 0) (nat_lit 68) tXv (memB [(Nat.add (nat_lit 28) (Nat.mul (nat_lit 3) f)), (Nat.add (nat_lit 29) (Nat.mul (nat_lit 3) f)), (Nat.add (nat_lit 30) (Nat.mul (nat_lit 3) f))]) [] (fun m0 => sx PG (nat_lit 200) (nat_lit 20) (PG (nat_lit 2)) (fun pc => Nat.beq pc (nat_lit 86)) (fun pc L st _ m => Bool.and (sKC (chA1 f i) (nat_lit 0) (nat_lit 68) tXv (memB [(Nat.add (nat_lit 28) (Nat.mul (nat_lit 3) f)), (Nat.add (nat_lit 29) (Nat.mul (nat_lit 3) f)), (Nat.add (nat_lit 30) (Nat.mul (nat_lit 3) f))]) m0 m) (Bool.and (kAt (nat_lit 86) (LAd4 f i) [.inr (.inl (.var (nat_lit 819294))), .inr (.inl (.var (nat_lit 819293))), .inl (.natCast i), .inr (.inr (some (Nat.add (nat_lit 30) (Nat.mul (nat_lit 3) f))))] pc L st) (isLE m (Nat.add (nat_lit 29) (Nat.mul (nat_lit 3) f)) i (.pow (.mul (.var (nat_lit 819296)) (.var (nat_lit 819295))) (nat_lit 22))))) (fun _ _ m => Bool.and (sKC (chA1 f i) (nat_lit 0) (nat_lit 68) tXv (memB [(Nat.add (nat_lit 28) (Nat.mul (nat_lit 3) f)), (Nat.add (nat_lit 29) (Nat.mul (nat_lit 3) f)), (Nat.add (nat_lit 30) (Nat.mul (nat_lit 3) f))]) m0 m) false) (nat_lit 73) (LAd4 f i) [.inr (.inl (.var (nat_lit 819296))), .inl (.natCast i), .inr (.inr (some (Nat.add (nat_lit 29) (Nat.mul (nat_lit 3) f))))] [] m0))) = true := by decide +kernel
theorem q_ad4 : allL 2 (fun f => allL 6 (fun i => sBeg (nat_lit 0) (nat_lit 68) tXv (memB [(Nat.add (nat_lit 28) (Nat.mul (nat_lit 3) f)), (Nat.add (nat_lit 29) (Nat.mul (nat_lit 3) f)), (Nat.add (nat_lit 30) (Nat.mul (nat_lit 3) f))]) [] (fun m0 => sx PG (nat_lit 200) (nat_lit 20) (PG (nat_lit 2)) (fun _ => false) (fun _ _ _ _ m => Bool.and (sKC (chA2 f i) (nat_lit 0) (nat_lit 68) tXv (memB [(Nat.add (nat_lit 28) (Nat.mul (nat_lit 3) f)), (Nat.add (nat_lit 29) (Nat.mul (nat_lit 3) f)), (Nat.add (nat_lit 30) (Nat.mul (nat_lit 3) f))]) m0 m) false) (fun v _ m => Bool.and (sKC (chA2 f i) (nat_lit 0) (nat_lit 68) tXv (memB [(Nat.add (nat_lit 28) (Nat.mul (nat_lit 3) f)), (Nat.add (nat_lit 29) (Nat.mul (nat_lit 3) f)), (Nat.add (nat_lit 30) (Nat.mul (nat_lit 3) f))]) m0 m) (Bool.and (eqO v none) (isLE m (Nat.add (nat_lit 30) (Nat.mul (nat_lit 3) f)) i (.pow (.mul (.var (nat_lit 819297)) (.var (nat_lit 819295))) (nat_lit 22))))) (nat_lit 87) (LAd4 f i) [.inr (.inl (.var (nat_lit 819297))), .inl (.natCast i), .inr (.inr (some (Nat.add (nat_lit 30) (Nat.mul (nat_lit 3) f))))] [] m0))) = true := by decide +kernel
theorem q_adL : allL 2 (fun f => allL 6 (fun i => Bool.and (isL (nat_lit 0) (nat_lit 68) tXv (Nat.add (Nat.mul (nat_lit 4096) (Nat.add (nat_lit 29) (Nat.mul (nat_lit 3) f))) i)) (isL (nat_lit 0) (nat_lit 68) tXv (Nat.add (Nat.mul (nat_lit 4096) (Nat.add (nat_lit 30) (Nat.mul (nat_lit 3) f))) i)))) = true := by decide +kernel
theorem c_addX (l : Launch) {D : va_G} {cy : Nat → ClassId} {al : Nat → Nat} {rest : va_W} {r : sE} {f i dd : Nat} {a b c d : Int} (hdd : 20 ≤ dd) (hf : f < 2) (hi : i < 6) (ha : r.2 (xP (29 + 3 * f) i) = Int64.ofInt a) (hb : r.2 (xP (30 + 3 * f) i) = Int64.ofInt b) (hU : (frU a b c d).natAbs < 9223372036854775808) (hD : (b * d).natAbs < 9223372036854775808) (h0 : b * d ≠ 0) : gMet l D cy al dd 2 (tW r al cy rest 68 tXv) [.ref (al (28 + 3 * f)), .int (Int32.ofNat i), .long (Int64.ofInt c), .long (Int64.ofInt d)] (fun v w => v = none ∧ ∃ r1, kpC (chAd f i) 0 68 tXv r r1 ∧ r1.2 (xP (29 + 3 * f) i) = Int64.ofInt (frA a b c d) ∧ r1.2 (xP (30 + 3 * f) i) = Int64.ofInt (frB a b c d) ∧ w = tW r1 al cy rest 68 tXv) := by
  refine gMet_up hdd ?_
  have hg0 := frG_pos (a := a) (c := c) h0
  have hgl := frG_le (a := a) (c := c) h0
  generalize eV : [Int64.ofInt c, Int64.ofInt d, Int64.ofInt (frU a b c d), Int64.ofInt (b * d), Int64.ofNat (frG a b c d), Int64.ofInt (b * d).sign, Int64.ofInt ((frU a b c d).tdiv (frG a b c d)), Int64.ofInt ((b * d).tdiv (frG a b c d))] = vs
  have g_0 : vs.getD 0 0 = Int64.ofInt c := by rw [← eV]; rfl
  have g_1 : vs.getD 1 0 = Int64.ofInt d := by rw [← eV]; rfl
  have g_2 : vs.getD 2 0 = Int64.ofInt (frU a b c d) := by rw [← eV]; rfl
  have g_3 : vs.getD 3 0 = Int64.ofInt (b * d) := by rw [← eV]; rfl
  have g_4 : vs.getD 4 0 = Int64.ofNat (frG a b c d) := by rw [← eV]; rfl
  have g_5 : vs.getD 5 0 = Int64.ofInt (b * d).sign := by rw [← eV]; rfl
  have g_6 : vs.getD 6 0 = Int64.ofInt ((frU a b c d).tdiv (frG a b c d)) := by rw [← eV]; rfl
  have g_7 : vs.getD 7 0 = Int64.ofInt ((b * d).tdiv (frG a b c d)) := by rw [← eV]; rfl
  have hw0 : tW (uN r vs) al cy rest 68 tXv = tW r al cy rest 68 tXv := tW_uN (by omega) tXv_can
  have ha0 : (uN r vs).2 (xP (29 + 3 * f) i) = Int64.ofInt a := (uN_lo (by unfold xP; omega)).trans ha
  have hb0 : (uN r vs).2 (xP (30 + 3 * f) i) = Int64.ofInt b := (uN_lo (by unfold xP; omega)).trans hb
  have n0 : sJ (uN r vs) (.var (nat_lit 819290)) = Int64.ofInt c := (uN_v 0).trans g_0
  have n1 : sJ (uN r vs) (.var (nat_lit 819291)) = Int64.ofInt d := (uN_v 1).trans g_1
  have n2 : sJ (uN r vs) (.var (nat_lit 819292)) = Int64.ofInt (frU a b c d) := (uN_v 2).trans g_2
  have n3 : sJ (uN r vs) (.var (nat_lit 819293)) = Int64.ofInt (b * d) := (uN_v 3).trans g_3
  have n4 : sJ (uN r vs) (.var (nat_lit 819294)) = Int64.ofNat (frG a b c d) := (uN_v 4).trans g_4
  have n5 : sJ (uN r vs) (.var (nat_lit 819295)) = Int64.ofInt (b * d).sign := (uN_v 5).trans g_5
  have n6 : sJ (uN r vs) (.var (nat_lit 819296)) = Int64.ofInt ((frU a b c d).tdiv (frG a b c d)) := (uN_v 6).trans g_6
  have n7 : sJ (uN r vs) (.var (nat_lit 819297)) = Int64.ofInt ((b * d).tdiv (frG a b c d)) := (uN_v 7).trans g_7
  rw [← hw0]
  have hk0 : kpC (chAd f i) 0 68 tXv r (uN r vs) := kpC_uN (by omega)
  generalize uN r vs = r0 at hw0 ha0 hb0 n0 n1 n2 n3 n4 n5 n6 n7 hk0 ⊢
  have key := gMet_ofD (l := l) (D := D) (cy := cy) (al := al) (d := 20) (k := 2) (w := tW r0 al cy rest 68 tXv) (r := r0) (G := fun v w => v = none ∧ ∃ r1, kpC (chAd f i) 0 68 tXv r r1 ∧ r1.2 (xP (29 + 3 * f) i) = Int64.ofInt (frA a b c d) ∧ r1.2 (xP (30 + 3 * f) i) = Int64.ofInt (frB a b c d) ∧ w = tW r1 al cy rest 68 tXv) (allL_ok (allL_ok q_adE f hf) i hi) (fun At hFC hLD => ?_)
  · have e1 : List.map (sVal r0 al) [.inr (.inr (some (Nat.add (nat_lit 28) (Nat.mul (nat_lit 3) f)))), .inl (.natCast i), .inr (.inl (.var (nat_lit 819290))), .inr (.inl (.var (nat_lit 819291)))] = [.ref (al (28 + 3 * f)), .int (Int32.ofNat i), .long (Int64.ofInt c), .long (Int64.ofInt d)] := by
      simp only [List.map_cons, List.map_nil, sVal, sI_c, n0, n1]
      rfl
    rw [e1] at key
    exact key
  -- to the gcd
  have xa : sJ r0 (.var (Nat.add (Nat.mul (nat_lit 4096) (Nat.add (nat_lit 29) (Nat.mul (nat_lit 3) f))) i)) = Int64.ofInt a := by
    show (sD _ _).2 = _
    rw [sD_v]
    exact ha0
  have xb : sJ r0 (.var (Nat.add (Nat.mul (nat_lit 4096) (Nat.add (nat_lit 30) (Nat.mul (nat_lit 3) f))) i)) = Int64.ofInt b := by
    show (sD _ _).2 = _
    rw [sD_v]
    exact hb0
  have hdn : sJ r0 (.pow (.mul (.var (Nat.add (Nat.mul (nat_lit 4096) (Nat.add (nat_lit 30) (Nat.mul (nat_lit 3) f))) i)) (.var (nat_lit 819291))) (nat_lit 22)) = Int64.ofInt (b * d) := by
    show (sD _ _).2 = _
    rw [sD_b]
    show sJ r0 _ * sJ r0 _ = _
    rw [xb, n1, Int64.ofInt_mul]
  have hup : sJ r0 (.pow (.mul (.pow (.mul (.var (Nat.add (Nat.mul (nat_lit 4096) (Nat.add (nat_lit 29) (Nat.mul (nat_lit 3) f))) i)) (.var (nat_lit 819291))) (nat_lit 22)) (.pow (.mul (.var (nat_lit 819290)) (.var (Nat.add (Nat.mul (nat_lit 4096) (Nat.add (nat_lit 30) (Nat.mul (nat_lit 3) f))) i))) (nat_lit 22))) (nat_lit 20)) = Int64.ofInt (frU a b c d) := by
    show (sD _ _).2 = _
    rw [sD_b, sD_b, sD_b]
    show sJ r0 _ * sJ r0 _ + sJ r0 _ * sJ r0 _ = _
    rw [xa, n1, n0, xb, ← Int64.ofInt_mul, ← Int64.ofInt_mul, ← Int64.ofInt_add]
    rfl
  refine g_segS hFC (r := r0) tXv_ok (cC_X _) sPa_nil oX_nil (allL_ok (allL_ok q_ad1 f hf) i hi) (fun pc L st pa hk hp => ?_) (fun v pa hk => nomatch hk)
  rw [Bool.and_eq_true] at hk
  obtain ⟨rfl, rfl, rfl⟩ := kAt_ok hk.1
  have e1 : (LAd1 f i).map (Option.map (sVal r0 al)) = (LAd2 f i).map (Option.map (sVal r0 al)) := by
    simp only [LAd1, LAd2, List.map_cons, List.map_nil, Option.map_some, Option.map_none, sVal, hup, hdn, n2, n3]
  have e2 : List.map (sVal r0 al) [.inr (.inl (.pow (.mul (.var (Nat.add (Nat.mul (nat_lit 4096) (Nat.add (nat_lit 30) (Nat.mul (nat_lit 3) f))) i)) (.var (nat_lit 819291))) (nat_lit 22))), .inr (.inl (.pow (.mul (.pow (.mul (.var (Nat.add (Nat.mul (nat_lit 4096) (Nat.add (nat_lit 29) (Nat.mul (nat_lit 3) f))) i)) (.var (nat_lit 819291))) (nat_lit 22)) (.pow (.mul (.var (nat_lit 819290)) (.var (Nat.add (Nat.mul (nat_lit 4096) (Nat.add (nat_lit 30) (Nat.mul (nat_lit 3) f))) i))) (nat_lit 22))) (nat_lit 20)))] = ([.long (Int64.ofInt (frU a b c d)), .long (Int64.ofInt (b * d))] : List Value).reverse ++ [] := by
    simp only [List.map_cons, List.map_nil, sVal, hup, hdn]
    rfl
  rw [e1, e2]
  refine hFC.2 35 38 3 19 _ [.long (Int64.ofInt (frU a b c d)), .long (Int64.ofInt (b * d))] [] _ _ ⟨_, _, rfl, rfl⟩ rfl (by decide) rfl (Or.inl rfl) (c_gcdX l (by omega) hU hD) (fun v w2 h => ?_)
  obtain ⟨rfl, rfl⟩ := h
  -- the signs
  have fg : ∀ (u : Nat) (z : Int), z.natAbs < 9223372036854775808 → z ≠ 0 → sJ r0 (.var u) = Int64.ofInt z → sKd r0 (true, false, (.pow (.mul (.var u) (.natCast (nat_lit 0))) (nat_lit 10)), (.natCast (nat_lit 0))) := fun u z h1 h2 h3 => by
    refine sKd_f.mpr ?_
    show ¬ sI _ _ = sI _ _
    have e : sI r0 (.pow (.mul (.var u) (.natCast (nat_lit 0))) (nat_lit 10)) = lg_cmp (Int64.ofInt z) (Int64.ofNat 0) := by
      rw [sI_lc, h3, sJ_c]
    rw [e, sI_c]
    exact fun q => h2 ((zJ_0 h1).mp (lgE.mp q))
  have g2 := g_segS hFC (r := r0) (al := al) (cy := cy) (rest := rest) tXv_ok (cC_X _) (pa := _) (fun q hq => ?_) oX_nil (allL_ok (allL_ok q_ad2 f hf) i hi) (fun pc L st pa hk2 hp => ?_) (fun v pa hk => nomatch hk)
  · have e3 : List.map (sVal r0 al) [.inr (.inl (.var (nat_lit 819294)))] = (some (Value.long (Int64.ofNat (frG a b c d)))).toList ++ [] := by
      simp only [List.map_cons, List.map_nil, sVal, n4]
      rfl
    rw [e3] at g2
    exact g2
  · rcases List.mem_cons.mp hq with rfl | hq
    · exact fg _ (frG a b c d : Int) (by omega) (by omega) (by rw [Int64.ofInt_eq_ofNat]; exact n4)
    · rw [List.mem_singleton] at hq
      subst hq
      exact fg _ _ hD h0 n3
  rw [Bool.and_eq_true] at hk2
  obtain ⟨rfl, rfl, rfl⟩ := kAt_ok hk2.1
  have e4 : (LAd3 f i).map (Option.map (sVal r0 al)) = (LAd4 f i).map (Option.map (sVal r0 al)) := by
    simp only [LAd3, LAd4, List.map_cons, List.map_nil, Option.map_some, Option.map_none, sVal, sgE_ok hD n3, n5]
  have hgn : ¬ Int64.ofNat (frG a b c d) = 0 := fun q => by
    have := (zJ_0 (z := (frG a b c d : Int)) (by omega)).mp (by rw [Int64.ofInt_eq_ofNat]; exact q)
    omega
  rw [e4]
  simp only [List.map_cons, List.map_nil, sVal, n4, n2]
  refine hLD.1 72 73 _ _ _ _ _ ⟨_, rfl⟩ hgn ?_
  rw [zJ_div hU (by omega), ← n6]
  -- above
  obtain ⟨l1, l2⟩ := Bool.and_eq_true_iff.mp (allL_ok (allL_ok q_adL f hf) i hi)
  refine g_segH hFC (r := r0) (st := [.inr (.inl (.var (nat_lit 819296))), .inl (.natCast i), .inr (.inr (some (Nat.add (nat_lit 29) (Nat.mul (nat_lit 3) f))))]) (by omega) tXv_ok (cC_X _) sPa_nil oX_nil (allL_ok (allL_ok q_ad3 f hf) i hi) (fun m0 pc L st pa m hk3 hp hk4 hH => ?_) (fun m0 v pa m hk => nomatch hk)
  rw [Bool.and_eq_true] at hk3
  obtain ⟨rfl, rfl, rfl⟩ := kAt_ok hk3.1
  have ea4 := isLE_ok (b := 0) (r := r0) (by omega) hk3.2
  generalize eOf 0 r0 m = r4 at hk4 hH ea4 ⊢
  have m4 : sJ r4 (.var (nat_lit 819294)) = Int64.ofNat (frG a b c d) := by
    rw [← n4]
    simp only [sJ, sD_v, (hH 819294 (by omega)).2]
  have m3 : sJ r4 (.var (nat_lit 819293)) = Int64.ofInt (b * d) := by
    rw [← n3]
    simp only [sJ, sD_v, (hH 819293 (by omega)).2]
  have m7 : sJ r4 (.var (nat_lit 819297)) = Int64.ofInt ((b * d).tdiv (frG a b c d)) := by
    rw [← n7]
    simp only [sJ, sD_v, (hH 819297 (by omega)).2]
  have m5 : sJ r4 (.var (nat_lit 819295)) = Int64.ofInt (b * d).sign := by
    rw [← n5]
    simp only [sJ, sD_v, (hH 819295 (by omega)).2]
  have e5 : (LAd4 f i).map (Option.map (sVal r0 al)) = (LAd4 f i).map (Option.map (sVal r4 al)) := by
    simp only [LAd4, List.map_cons, List.map_nil, Option.map_some, Option.map_none, sVal, sI_c, sJ, sD_v, (hH 819290 (by omega)).2, (hH 819291 (by omega)).2, (hH 819292 (by omega)).2, (hH 819293 (by omega)).2, (hH 819294 (by omega)).2, (hH 819295 (by omega)).2]
  rw [e5]
  simp only [List.map_cons, List.map_nil, sVal, n4, n3]
  refine hLD.1 86 87 _ _ _ _ _ ⟨_, rfl⟩ hgn ?_
  rw [zJ_div hD (by omega), ← m7]
  have g5 := g_segH hFC (al := al) (cy := cy) (rest := rest) (r := r4) (by omega) tXv_ok (cC_X _) sPa_nil oX_nil (allL_ok (allL_ok q_ad4 f hf) i hi) (fun m0 pc L st pa m hk => nomatch hk) (fun m0 v pa m hk5 hp hk6 hH2 => ?_)
  · simp only [List.map_cons, List.map_nil, sVal, sI_c] at g5 ⊢
    exact g5
  rw [Bool.and_eq_true] at hk5
  rw [eqO_ok hk5.1]
  refine ⟨rfl, _, kpC_trans hk0 (kpC_trans (kpC_weak (fun u hu => (Bool.or_eq_false_iff.mp hu).1) hk4) (kpC_weak (fun u hu => (Bool.or_eq_false_iff.mp hu).2) hk6)), ?_, ?_, rfl⟩
  · have hne : chA2 f i (Nat.add (Nat.mul (nat_lit 4096) (Nat.add (nat_lit 29) (Nat.mul (nat_lit 3) f))) i) = false := by
      cases hh : chA2 f i (Nat.add (Nat.mul (nat_lit 4096) (Nat.add (nat_lit 29) (Nat.mul (nat_lit 3) f))) i) with
      | false => rfl
      | true =>
        have : 4096 * (29 + 3 * f) + i = 4096 * (30 + 3 * f) + i := Nat.eq_of_beq_eq_true hh
        omega
    have q1 := hk6.2.1 _ l1 hne
    have q2 : (eOf 0 r4 m).2 (xP (29 + 3 * f) i) = r4.2 (4096 * (0 + (29 + 3 * f)) + i) := by
      rw [Nat.zero_add]
      exact q1
    rw [q2]
    refine Eq.trans ea4 ?_
    show (sD _ _).2 = _
    rw [sD_b]
    show sJ r0 _ * sJ r0 _ = _
    rw [n6, n5, ← Int64.ofInt_mul]
    rfl
  · have ea5 := isLE_ok (b := 0) (r := r4) (by omega) hk5.2
    have q2 : xP (30 + 3 * f) i = 4096 * (0 + (30 + 3 * f)) + i := by rw [Nat.zero_add]; rfl
    rw [q2]
    refine Eq.trans ea5 ?_
    show (sD _ _).2 = _
    rw [sD_b]
    show sJ r4 _ * sJ r4 _ = _
    rw [m7, m5, ← Int64.ofInt_mul]
    rfl
