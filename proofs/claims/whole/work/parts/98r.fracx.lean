/-! 98r: fraction, the class (by wip/whole/mk98r.py) -/
noncomputable def x64 (c s m : Nat) : Nat := Nat.mod (Nat.add (dsN c s m) (nat_lit 18446744073709551608)) (nat_lit 18446744073709551616)
noncomputable def q64 (c s m : Nat) : Nat := Nat.sub (Nat.mul (Nat.add (Nat.sub (dsN c s m) (nat_lit 8)) (Nat.sub (nat_lit 8) (dsN c s m))) (Nat.add (Nat.sub (dsN c s m) (nat_lit 8)) (Nat.sub (nat_lit 8) (dsN c s m)))) (nat_lit 1)
theorem q_dsB : allL 18 (fun c => allL 5 (fun s => allL 6 (fun m => Bool.and (Nat.ble (dsN c s m) (nat_lit 16)) (Bool.and (Nat.ble (chN9 c s m) (nat_lit 9)) (Bool.or (Nat.beq (chN9 c s m) (nat_lit 9)) (Nat.ble (Nat.succ (chN9 c s m)) (dOf c))))))) = true := by decide +kernel
theorem ds_bd {c s m : Nat} (hc : c < 18) (hs : s < 5) (hm : m < 6) : dsN c s m ≤ 16 ∧ (chN9 c s m = 9 ∨ chN9 c s m < dOf c) := by
  have h := allL_ok (allL_ok (allL_ok q_dsB c hc) s hs) m hm
  rw [Bool.and_eq_true, Bool.and_eq_true, Bool.or_eq_true] at h
  refine ⟨Nat.le_of_ble_eq_true h.1, ?_⟩
  rcases h.2.2 with h | h
  · exact Or.inl (Nat.eq_of_beq_eq_true h)
  · exact Or.inr (Nat.le_of_ble_eq_true h)
theorem x64_ok {c s m : Nat} : Int64.ofNat (x64 c s m) = Int64.ofInt (dsT c s m) := by
  unfold x64 dsT
  generalize dsN c s m = n
  show Int64.ofNat ((n + 18446744073709551608) % 18446744073709551616) = Int64.ofInt (Int.subNatNat n 8)
  rw [Int.subNatNat_eq_coe, ← Int64.toInt_inj, Int64.toInt_ofNat', Int64.toInt_ofInt]
  simp only [Int.bmod_def, show ((Int64.size : Nat) : Int) = 18446744073709551616 from rfl]
  omega
theorem dsT_eq {c s m : Nat} : dsT c s m = (dsN c s m : Int) - 8 := by
  unfold dsT
  rw [Int.subNatNat_eq_coe]
  rfl
theorem q64_ok {c s m : Nat} (h8 : dsN c s m ≠ 8) : Int64.ofNat (q64 c s m) = Int64.ofInt (dsT c s m * dsT c s m - 1) := by
  rw [J_nat, dsT_eq]
  congr 1
  unfold q64
  generalize dsN c s m = n at h8
  show (((n - 8 + (8 - n)) * (n - 8 + (8 - n)) - 1 : Nat) : Int) = _
  have e : (((n - 8 + (8 - n) : Nat) : Int) = (n : Int) - 8) ∨ (((n - 8 + (8 - n) : Nat) : Int) = -((n : Int) - 8)) := by omega
  have p : 1 ≤ n - 8 + (8 - n) := by omega
  generalize n - 8 + (8 - n) = z at e p
  have h1 : 1 ≤ z * z := Nat.mul_le_mul p p
  rw [Int.natCast_sub h1, Int.natCast_mul]
  rcases e with e | e
  · rw [e]; rfl
  · rw [e, Int.neg_mul_neg]; rfl
/-- the row f of the class holds v -/
def rowF (f d : Nat) (v : zR) (r : sE) : Prop := ∀ j, j < d → r.2 (xP (29 + 3 * f) j) = Int64.ofInt (getZ v j).1 ∧ r.2 (xP (30 + 3 * f) j) = Int64.ofInt (getZ v j).2
theorem chAd_no {f g i j : Nat} (hi : i < 6) (hj : j < 6) (h : g ≠ f ∨ j ≠ i) : chAd g i (4096 * (29 + 3 * f) + j) = false ∧ chAd g i (4096 * (30 + 3 * f) + j) = false := by
  constructor
  · cases hh : chAd g i (4096 * (29 + 3 * f) + j) with
    | false => rfl
    | true =>
      rcases Bool.or_eq_true_iff.mp hh with hh | hh
      · have : 4096 * (29 + 3 * f) + j = 4096 * (29 + 3 * g) + i := Nat.eq_of_beq_eq_true hh
        omega
      · have : 4096 * (29 + 3 * f) + j = 4096 * (30 + 3 * g) + i := Nat.eq_of_beq_eq_true hh
        omega
  · cases hh : chAd g i (4096 * (30 + 3 * f) + j) with
    | false => rfl
    | true =>
      rcases Bool.or_eq_true_iff.mp hh with hh | hh
      · have : 4096 * (30 + 3 * f) + j = 4096 * (29 + 3 * g) + i := Nat.eq_of_beq_eq_true hh
        omega
      · have : 4096 * (30 + 3 * f) + j = 4096 * (30 + 3 * g) + i := Nat.eq_of_beq_eq_true hh
        omega
/-- the other row stands -/
theorem rowF_st {f g i d : Nat} {v : zR} {r r1 : sE} (hf : f < 2) (hd : d ≤ 6) (hi : i < 6) (hg : g ≠ f) (h : kpC (chAd g i) 0 68 tXv r r1) (hr : rowF f d v r) : rowF f d v r1 := fun j hj => by
  obtain ⟨l1, l2⟩ := Bool.and_eq_true_iff.mp (allL_ok (allL_ok q_adL f hf) j (by omega))
  obtain ⟨n1, n2⟩ := chAd_no (f := f) (g := g) (i := i) (j := j) hi (by omega) (Or.inl hg)
  exact ⟨(h.2.1 _ l1 n1).trans (hr j hj).1, (h.2.1 _ l2 n2).trans (hr j hj).2⟩
/-- the row that is added to -/
theorem rowF_ad {f i d : Nat} {v : zR} {r r1 : sE} {c e : Int} (hf : f < 2) (hd : d ≤ 6) (hi : i < d) (hl : i < v.length) (h : kpC (chAd f i) 0 68 tXv r r1) (h1 : r1.2 (xP (29 + 3 * f) i) = Int64.ofInt (frA (getZ v i).1 (getZ v i).2 c e)) (h2 : r1.2 (xP (30 + 3 * f) i) = Int64.ofInt (frB (getZ v i).1 (getZ v i).2 c e)) (hr : rowF f d v r) : rowF f d (adR v i c e) r1 := fun j hj => by
  rw [adR_get v i j hl]
  by_cases he : j = i
  · subst he
    rw [if_pos rfl]
    exact ⟨h1, h2⟩
  · rw [if_neg he]
    obtain ⟨l1, l2⟩ := Bool.and_eq_true_iff.mp (allL_ok (allL_ok q_adL f hf) j (by omega))
    obtain ⟨n1, n2⟩ := chAd_no (f := f) (g := f) (i := i) (j := j) (by omega) (by omega) (Or.inr he)
    exact ⟨(h.2.1 _ l1 n1).trans (hr j hj).1, (h.2.1 _ l2 n2).trans (hr j hj).2⟩
noncomputable def chC (g u : Nat) : Bool := memB [Nat.add (nat_lit 29) (Nat.mul (nat_lit 3) g), Nat.add (nat_lit 30) (Nat.mul (nat_lit 3) g)] (Nat.div u (nat_lit 4096))
theorem chC_y {g u : Nat} (h : chC g u = true) : u / 4096 = 29 + 3 * g ∨ u / 4096 = 30 + 3 * g := by
  have h2 : Bool.or (Nat.beq (29 + 3 * g) (u / 4096)) (Bool.or (Nat.beq (30 + 3 * g) (u / 4096)) false) = true := h
  rw [Bool.or_eq_true, Bool.or_eq_true] at h2
  rcases h2 with h2 | h2 | h2
  · exact Or.inl (Nat.eq_of_beq_eq_true h2).symm
  · exact Or.inr (Nat.eq_of_beq_eq_true h2).symm
  · exact nomatch h2
theorem kp_C {g : Nat} {r r1 : sE} (hg : g < 2) (h : kpC (chC g) 0 68 tXv r r1) : kp 0 68 tXv r r1 := kpC_weak (Ch2 := scQ) (fun u hu => by
  cases hh : chC g u with
  | false => rfl
  | true =>
    have key : ∀ i, (i = 29 ∨ i = 30 ∨ i = 32 ∨ i = 33) → u / 4096 = i → scQ u = true := fun i hi hd => by
      have hd2 : Nat.div u (nat_lit 4096) = i := hd
      unfold scQ
      rw [hd2]
      rcases hi with rfl | rfl | rfl | rfl <;> rfl
    rcases chC_y hh with h2 | h2
    · rw [key _ (by omega) h2] at hu
      exact nomatch hu
    · rw [key _ (by omega) h2] at hu
      exact nomatch hu) h
theorem rowF_C {f d : Nat} {v : zR} {r r1 : sE} (hf : f < 2) (hd : d ≤ 6) (h : kpC (chC (1 - f)) 0 68 tXv r r1) (hr : rowF f d v r) : rowF f d v r1 := fun j hj => by
  obtain ⟨l1, l2⟩ := Bool.and_eq_true_iff.mp (allL_ok (allL_ok q_adL f hf) j (by omega))
  have n1 : chC (1 - f) (4096 * (29 + 3 * f) + j) = false := by
    cases hh : chC (1 - f) (4096 * (29 + 3 * f) + j) with
    | false => rfl
    | true =>
      have := chC_y hh
      omega
  have n2 : chC (1 - f) (4096 * (30 + 3 * f) + j) = false := by
    cases hh : chC (1 - f) (4096 * (30 + 3 * f) + j) with
    | false => rfl
    | true =>
      have := chC_y hh
      omega
  exact ⟨(h.2.1 _ l1 n1).trans (hr j hj).1, (h.2.1 _ l2 n2).trans (hr j hj).2⟩
/-- a cleared row -/
theorem rowF_0 {f d : Nat} {r : sE} {m : sM} (hd : d ≤ 6) (h : ∀ j, j < 6 → isLE m (29 + 3 * f) j (.natCast 0) = true ∧ isLE m (30 + 3 * f) j (.natCast 1) = true) : rowF f d (zero d) (eOf 0 r m) := fun j hj => by
  obtain ⟨h1, h2⟩ := h j (by omega)
  rw [zero_get]
  constructor
  · refine Eq.trans (congrArg (eOf 0 r m).2 (show xP (29 + 3 * f) j = 4096 * (0 + (29 + 3 * f)) + j by rw [Nat.zero_add]; rfl)) (Eq.trans (isLE_ok (b := 0) (r := r) (by first | decide | omega) h1) ?_)
    simp only [sJ, sD_c, J_nat]
    rfl
  · refine Eq.trans (congrArg (eOf 0 r m).2 (show xP (30 + 3 * f) j = 4096 * (0 + (30 + 3 * f)) + j by rw [Nat.zero_add]; rfl)) (Eq.trans (isLE_ok (b := 0) (r := r) (by first | decide | omega) h2) ?_)
    simp only [sJ, sD_c, J_nat]
    rfl
theorem gRecv_f {mi f : Nat} {r : sE} {al : Nat → Nat} {cy : Nat → ClassId} {rest : va_W} {as1 : List Value} (hf : f < 2) (hm : (PG mi).2.2.2.1 = 0) : gRecv mi (.ref (al (28 + 3 * f)) :: as1) (tW r al cy rest 68 tXv) := by
  match f, hf with
  | 0, _ => exact gRecv_x (j := 28) (by omega) rfl hm
  | 1, _ => exact gRecv_x (j := 31) (by omega) rfl hm
theorem wk7 {k : Nat} {At : gAt} (hLD : gLD k At) {pc : Nat} {a0 a1 a2 a3 a4 b5 b6 b7 b8 b9 b10 b11 : Option Value} {SV : List Value} {w : va_W} (h : At pc [a0, a1, a2, a3, a4, none, none, none, none, none, none, none] SV w) : At pc [a0, a1, a2, a3, a4, b5, b6, b7, b8, b9, b10, b11] SV w := hLD.2.2 pc _ [a0, a1, a2, a3, a4, none, none, none, none, none, none, none] _ _ rfl (fun j v hv => by
  rcases j with _ | _ | _ | _ | _ | _ | _ | _ | _ | _ | _ | _ | j
  all_goals first | exact hv | exact nomatch hv) h
noncomputable def L70 (s f m : Nat) : sL := [some (.inr (.inr (some (nat_lit 24)))), some (.inr (.inr (some (Nat.add (nat_lit 28) (Nat.mul (nat_lit 3) f))))), some (.inl (.natCast s)), some (.inr (.inr (some (Nat.add (nat_lit 28) (Nat.mul (nat_lit 3) (Nat.sub (nat_lit 1) f)))))), some (.inl (.natCast m)), none, none, none, none, none, none, none]
noncomputable def LGo (c s f m : Nat) : sL := [some (.inr (.inr (some (nat_lit 24)))), some (.inr (.inr (some (Nat.add (nat_lit 28) (Nat.mul (nat_lit 3) f))))), some (.inl (.natCast s)), some (.inr (.inr (some (Nat.add (nat_lit 28) (Nat.mul (nat_lit 3) (Nat.sub (nat_lit 1) f)))))), some (.inl (.natCast m)), some (.inr (.inl (.natCast (x64 c s m)))), none, some (.inr (.inl (.var (Nat.add (Nat.mul (nat_lit 4096) (Nat.add (nat_lit 29) (Nat.mul (nat_lit 3) f))) m)))), none, some (.inr (.inl (.var (Nat.add (Nat.mul (nat_lit 4096) (Nat.add (nat_lit 30) (Nat.mul (nat_lit 3) f))) m)))), none, none]
noncomputable def LGj (c s f m j : Nat) : sL := [some (.inr (.inr (some (nat_lit 24)))), some (.inr (.inr (some (Nat.add (nat_lit 28) (Nat.mul (nat_lit 3) f))))), some (.inl (.natCast s)), some (.inr (.inr (some (Nat.add (nat_lit 28) (Nat.mul (nat_lit 3) (Nat.sub (nat_lit 1) f)))))), some (.inl (.natCast m)), some (.inr (.inl (.natCast (x64 c s m)))), none, some (.inr (.inl (.var (Nat.add (Nat.mul (nat_lit 4096) (Nat.add (nat_lit 29) (Nat.mul (nat_lit 3) f))) m)))), none, some (.inr (.inl (.var (Nat.add (Nat.mul (nat_lit 4096) (Nat.add (nat_lit 30) (Nat.mul (nat_lit 3) f))) m)))), none, some (.inl (.natCast j))]
noncomputable def LGn (c s f m : Nat) : sL := [some (.inr (.inr (some (nat_lit 24)))), some (.inr (.inr (some (Nat.add (nat_lit 28) (Nat.mul (nat_lit 3) f))))), some (.inl (.natCast s)), some (.inr (.inr (some (Nat.add (nat_lit 28) (Nat.mul (nat_lit 3) (Nat.sub (nat_lit 1) f)))))), some (.inl (.natCast (Nat.succ m))), some (.inr (.inl (.natCast (x64 c s m)))), none, some (.inr (.inl (.var (Nat.add (Nat.mul (nat_lit 4096) (Nat.add (nat_lit 29) (Nat.mul (nat_lit 3) f))) m)))), none, some (.inr (.inl (.var (Nat.add (Nat.mul (nat_lit 4096) (Nat.add (nat_lit 30) (Nat.mul (nat_lit 3) f))) m)))), none, some (.inl (.natCast (nat_lit 4294967294)))]
theorem q_goE : allL 5 (fun s => allL 2 (fun f => sEnt [.inr (.inr (some (nat_lit 24))), .inr (.inr (some (Nat.add (nat_lit 28) (Nat.mul (nat_lit 3) f)))), .inl (.natCast s), .inr (.inr (some (Nat.add (nat_lit 28) (Nat.mul (nat_lit 3) (Nat.sub (nat_lit 1) f)))))] (PG (nat_lit 44)).2.1 (fun L => eqL eqO L [some (.inr (.inr (some (nat_lit 24)))), some (.inr (.inr (some (Nat.add (nat_lit 28) (Nat.mul (nat_lit 3) f))))), some (.inl (.natCast s)), some (.inr (.inr (some (Nat.add (nat_lit 28) (Nat.mul (nat_lit 3) (Nat.sub (nat_lit 1) f)))))), none, none, none, none, none, none, none, none]))) = true := by decide +kernel
theorem q_go0 : allL 5 (fun s => allL 2 (fun f => sBeg (nat_lit 0) (nat_lit 68) tXv (memB [(nat_lit 28), (nat_lit 29), (nat_lit 30), (nat_lit 31), (nat_lit 32), (nat_lit 33)]) [] (fun m0 => sx PG (nat_lit 200) (nat_lit 22) (PG (nat_lit 44)) (fun pc => Nat.beq pc (nat_lit 7)) (fun pc L st _ m => Bool.and (sKC (chC (Nat.sub (nat_lit 1) f)) (nat_lit 0) (nat_lit 68) tXv (memB [(nat_lit 28), (nat_lit 29), (nat_lit 30), (nat_lit 31), (nat_lit 32), (nat_lit 33)]) m0 m) (Bool.and (kAt (nat_lit 7) (L70 s f (nat_lit 0)) [] pc L st) (allL (nat_lit 6) (fun j => Bool.and (isLE m (Nat.add (nat_lit 29) (Nat.mul (nat_lit 3) (Nat.sub (nat_lit 1) f))) j (.natCast (nat_lit 0))) (isLE m (Nat.add (nat_lit 30) (Nat.mul (nat_lit 3) (Nat.sub (nat_lit 1) f))) j (.natCast (nat_lit 1))))))) (fun _ _ m => Bool.and (sKC (chC (Nat.sub (nat_lit 1) f)) (nat_lit 0) (nat_lit 68) tXv (memB [(nat_lit 28), (nat_lit 29), (nat_lit 30), (nat_lit 31), (nat_lit 32), (nat_lit 33)]) m0 m) false) (nat_lit 0) [some (.inr (.inr (some (nat_lit 24)))), some (.inr (.inr (some (Nat.add (nat_lit 28) (Nat.mul (nat_lit 3) f))))), some (.inl (.natCast s)), some (.inr (.inr (some (Nat.add (nat_lit 28) (Nat.mul (nat_lit 3) (Nat.sub (nat_lit 1) f)))))), none, none, none, none, none, none, none, none] [] [] m0))) = true := by decide +kernel
theorem q_goH : allL 18 (fun c => allL (Nat.pred (nOf c)) (fun s0 => (fun s => allL 2 (fun f => allL (Nat.succ (dOf c)) (fun m => sBeg (nat_lit 0) (nat_lit 68) (tX c) (memB [(nat_lit 1), (nat_lit 3), (nat_lit 4), (nat_lit 5), (nat_lit 6), (nat_lit 7), (nat_lit 8), (nat_lit 9), (nat_lit 10), (nat_lit 11), (nat_lit 24), (nat_lit 28), (nat_lit 29), (nat_lit 30), (nat_lit 31), (nat_lit 32), (nat_lit 33)]) [] (fun m0 => sx PG (nat_lit 500) (nat_lit 22) (PG (nat_lit 44)) (fun pc => Nat.beq pc (nat_lit 60)) (fun pc L st _ m9 => Bool.and (eqL eqC m9 m0) (Bool.and (Nat.ble (Nat.succ m) (dOf c)) (kAt (nat_lit 60) (LGo c s f m) [.inr (.inl (.pow (.mul (.var (Nat.add (Nat.mul (nat_lit 4096) (Nat.add (nat_lit 30) (Nat.mul (nat_lit 3) f))) m)) (.natCast (x64 c s m))) (nat_lit 22))), .inr (.inl (.var (Nat.add (Nat.mul (nat_lit 4096) (Nat.add (nat_lit 29) (Nat.mul (nat_lit 3) f))) m))), .inl (.natCast m), .inr (.inr (some (Nat.add (nat_lit 28) (Nat.mul (nat_lit 3) (Nat.sub (nat_lit 1) f)))))] pc L st))) (fun v _ m9 => Bool.and (eqL eqC m9 m0) (Bool.and (Nat.beq m (dOf c)) (eqO v none))) (nat_lit 7) (L70 s f m) [] [] m0)))) (Nat.succ s0))) = true := by decide +kernel
noncomputable def go1 (c s f m : Nat) : Bool := sBeg (nat_lit 0) (nat_lit 68) (tX c) (memB [(nat_lit 1), (nat_lit 3), (nat_lit 4), (nat_lit 5), (nat_lit 6), (nat_lit 7), (nat_lit 8), (nat_lit 9), (nat_lit 10), (nat_lit 11), (nat_lit 24), (nat_lit 28), (nat_lit 29), (nat_lit 30), (nat_lit 31), (nat_lit 32), (nat_lit 33)]) [] (fun m0 => sx PG (nat_lit 5000) (nat_lit 22) (PG (nat_lit 44)) (fun pc => memB [(nat_lit 7), (nat_lit 89), (nat_lit 121)] pc) (fun pc L st _ m9 => Bool.and (eqL eqC m9 m0) (Bool.or (Bool.and (Nat.beq (chN9 c s m) (nat_lit 9)) (kAt (nat_lit 7) (LGn c s f m) [] pc L st)) (Bool.and (Bool.not (Nat.beq (chN9 c s m) (nat_lit 9))) (Bool.or (Bool.and (Nat.ble (Nat.succ m) (chN9 c s m)) (kAt (nat_lit 89) (LGj c s f m (chN9 c s m)) [.inr (.inl (.var (Nat.add (Nat.mul (nat_lit 4096) (Nat.add (nat_lit 30) (Nat.mul (nat_lit 3) f))) m))), .inr (.inl (.var (Nat.add (Nat.mul (nat_lit 4096) (Nat.add (nat_lit 29) (Nat.mul (nat_lit 3) f))) m))), .inl (.natCast (chN9 c s m)), .inr (.inr (some (Nat.add (nat_lit 28) (Nat.mul (nat_lit 3) (Nat.sub (nat_lit 1) f)))))] pc L st)) (Bool.and (Bool.and (Nat.ble (Nat.succ (chN9 c s m)) m) (Bool.not (Nat.beq (dsN c s m) (nat_lit 8)))) (kAt (nat_lit 121) (LGj c s f m (chN9 c s m)) [.inr (.inl (.pow (.mul (.pow (.mul (.var (Nat.add (Nat.mul (nat_lit 4096) (Nat.add (nat_lit 30) (Nat.mul (nat_lit 3) f))) m)) (.natCast (x64 c s m))) (nat_lit 22)) (.natCast (x64 c s m))) (nat_lit 22))), .inr (.inl (.pow (.mul (.var (Nat.add (Nat.mul (nat_lit 4096) (Nat.add (nat_lit 29) (Nat.mul (nat_lit 3) f))) m)) (.natCast (q64 c s m))) (nat_lit 22))), .inl (.natCast (chN9 c s m)), .inr (.inr (some (Nat.add (nat_lit 28) (Nat.mul (nat_lit 3) (Nat.sub (nat_lit 1) f)))))] pc L st)))))) (fun _ _ m9 => Bool.and (eqL eqC m9 m0) false) (nat_lit 63) (LGo c s f m) [] [] m0)
theorem q_go1a : allL 12 (fun c => allL (Nat.pred (nOf c)) (fun s0 => allL 2 (fun f => allL (dOf c) (fun m => go1 c (Nat.succ s0) f m)))) = true := by decide +kernel
theorem q_go1b : allL 6 (fun c0 => allL 4 (fun s0 => allL 2 (fun f => allL (dOf (Nat.add (nat_lit 12) c0)) (fun m => go1 (Nat.add (nat_lit 12) c0) (Nat.succ s0) f m)))) = true := by decide +kernel
theorem q_go2 : allL 5 (fun s => allL 2 (fun f => allL 6 (fun m => Bool.and (sx PG (nat_lit 100) (nat_lit 22) (PG (nat_lit 44)) (fun pc => Nat.beq pc (nat_lit 7)) (fun pc L st _ m9 => Bool.and (eqL eqC m9 []) (kAt (nat_lit 7) (L70 s f (Nat.succ m)) [] pc L st)) (fun _ _ m9 => Bool.and (eqL eqC m9 []) false) (nat_lit 92) (L70 s f m) [] [] []) (sx PG (nat_lit 100) (nat_lit 22) (PG (nat_lit 44)) (fun pc => Nat.beq pc (nat_lit 7)) (fun pc L st _ m9 => Bool.and (eqL eqC m9 []) (kAt (nat_lit 7) (L70 s f (Nat.succ m)) [] pc L st)) (fun _ _ m9 => Bool.and (eqL eqC m9 []) false) (nat_lit 124) (L70 s f m) [] [] [])))) = true := by decide +kernel
theorem q_go1 {c s f m : Nat} (hc : c < 18) (hs1 : 1 ≤ s) (hs : s < nOf c) (hf : f < 2) (hm : m < dOf c) : go1 c s f m = true := by
  obtain ⟨s, rfl⟩ : ∃ s0, s = s0 + 1 := ⟨s - 1, by omega⟩
  by_cases h : c < 12
  · exact allL_ok (allL_ok (allL_ok (allL_ok q_go1a c h) s (by show s < nOf c - 1; omega)) f hf) m hm
  · obtain ⟨c0, rfl⟩ : ∃ c0, c = 12 + c0 := ⟨c - 12, by omega⟩
    have h5 := (cd_tab (12 + c0) hc).2.2
    exact allL_ok (allL_ok (allL_ok (allL_ok q_go1b c0 (by omega)) s (by omega)) f hf) m hm
theorem L70_eq {r : sE} {al : Nat → Nat} {s f m : Nat} : (L70 s f m).map (Option.map (sVal r al)) = [some (.ref (al 24)), some (.ref (al (28 + 3 * f))), some (.int (Int32.ofNat s)), some (.ref (al (28 + 3 * (1 - f)))), some (.int (Int32.ofNat m)), none, none, none, none, none, none, none] := by
  simp only [L70, List.map_cons, List.map_nil, Option.map_some, Option.map_none, sVal, sI_c]
  rfl
theorem go_bv {r : sE} {f m d : Nat} {v : zR} (hF : rowF f d v r) (hm : m < d) : sJ r (.var (Nat.add (Nat.mul (nat_lit 4096) (Nat.add (nat_lit 29) (Nat.mul (nat_lit 3) f))) m)) = Int64.ofInt (getZ v m).1 ∧ sJ r (.var (Nat.add (Nat.mul (nat_lit 4096) (Nat.add (nat_lit 30) (Nat.mul (nat_lit 3) f))) m)) = Int64.ofInt (getZ v m).2 := by
  obtain ⟨h1, h2⟩ := hF m hm
  constructor
  · show (sD _ _).2 = _
    rw [sD_v]
    exact h1
  · show (sD _ _).2 = _
    rw [sD_v]
    exact h2
/-- one turn of goOn's loop, and the rest -/
theorem go_loop {l : Launch} {D : va_G} {cy : Nat → ClassId} {al : Nat → Nat} {rest : va_W} {c s f : Nat} {v : zR} {r : sE} {Rt : Option Value → va_W → Prop} {At : gAt} (hFC : gFC l D cy al 44 22 Rt At) (hLD : gLD 44 At) (hc : c < 18) (hs1 : 1 ≤ s) (hs : s < nOf c) (hf : f < 2) (hcc : cC 0 68 (tX c) r) : ∀ (vs : zR) (m : Nat) (row : zR) (r' : sE), m + vs.length = dOf c → (∀ j, j < vs.length → getZ vs j = getZ v (m + j)) → row.length = dOf c → goG c s vs m row → kp 0 68 tXv r r' → rowF f (dOf c) v r' → rowF (1 - f) (dOf c) row r' → (∀ r2, kp 0 68 tXv r r2 → rowF (1 - f) (dOf c) (goL c s vs m row) r2 → Rt none (tW r2 al cy rest 68 tXv)) → At 7 [some (.ref (al 24)), some (.ref (al (28 + 3 * f))), some (.int (Int32.ofNat s)), some (.ref (al (28 + 3 * (1 - f)))), some (.int (Int32.ofNat m)), none, none, none, none, none, none, none] [] (tW r' al cy rest 68 tXv) := by
  have d6 := (cd_tab c hc).1.2
  have n5 := (cd_tab c hc).2.2
  intro vs
  induction vs with
  | nil =>
    intro m row r' hm hv hl hG hk hF hT hR
    rw [List.length_nil, Nat.add_zero] at hm
    obtain ⟨s0, rfl⟩ : ∃ s0, s = s0 + 1 := ⟨s - 1, by omega⟩
    have g := g_segS hFC (r := r') (al := al) (cy := cy) (rest := rest) (tX_ok hc) (kpX_cC hc hk hcc) sPa_nil oX_nil (allL_ok (allL_ok (allL_ok (allL_ok q_goH c hc) s0 (by show s0 < nOf c - 1; omega)) f hf) m (by show m < dOf c + 1; omega)) (fun pc L st pa hk2 hp => ?_) (fun v pa hk2 hp => ?_)
    · rw [L70_eq] at g
      exact g
    · rw [Bool.and_eq_true] at hk2
      have h1 : m + 1 ≤ dOf c := Nat.le_of_ble_eq_true hk2.1
      omega
    · rw [Bool.and_eq_true] at hk2
      rw [eqO_ok hk2.2]
      exact hR r' hk hT
  | cons z vs ih =>
    intro m row r' hm hv hl hG hk hF hT hR
    rw [List.length_cons] at hm
    have hz : z = getZ v m := hv 0 (by rw [List.length_cons]; omega)
    obtain ⟨⟨hg1, hg1l⟩, hg2, hg3⟩ : (rg (getZ row m).1 (getZ row m).2 z.1 (z.2 * dsT c s m) ∧ m < row.length) ∧ go2G c s m z (adR row m z.1 (z.2 * dsT c s m)) ∧ goG c s vs (Nat.succ m) (go2 c s m z (adR row m z.1 (z.2 * dsT c s m))) := hG
    have hmd : m < dOf c := by omega
    obtain ⟨s0, rfl⟩ : ∃ s0, s = s0 + 1 := ⟨s - 1, by omega⟩
    obtain ⟨va, vb⟩ := go_bv hF hmd
    rw [← hz] at va vb
    have g := g_segS hFC (r := r') (al := al) (cy := cy) (rest := rest) (tX_ok hc) (kpX_cC hc hk hcc) sPa_nil oX_nil (allL_ok (allL_ok (allL_ok (allL_ok q_goH c hc) s0 (by show s0 < nOf c - 1; omega)) f hf) m (by show m < dOf c + 1; omega)) (fun pc L st pa hk2 hp => ?_) (fun v pa hk2 hp => ?_)
    · rw [L70_eq] at g
      exact g
    rotate_left
    · rw [Bool.and_eq_true] at hk2
      have h1 : m = dOf c := Nat.eq_of_beq_eq_true hk2.1
      omega
    rw [Bool.and_eq_true] at hk2
    obtain ⟨rfl, rfl, rfl⟩ := kAt_ok hk2.2
    have hX : ∀ r : sE, sJ r (.natCast (x64 c (s0 + 1) m)) = Int64.ofInt (dsT c (s0 + 1) m) := fun r => by
      simp only [sJ, sD_c]
      exact x64_ok
    have e60 : List.map (sVal r' al) [.inr (.inl (.pow (.mul (.var (Nat.add (Nat.mul (nat_lit 4096) (Nat.add (nat_lit 30) (Nat.mul (nat_lit 3) f))) m)) (.natCast (x64 c (s0 + 1) m))) (nat_lit 22))), .inr (.inl (.var (Nat.add (Nat.mul (nat_lit 4096) (Nat.add (nat_lit 29) (Nat.mul (nat_lit 3) f))) m))), .inl (.natCast m), .inr (.inr (some (Nat.add (nat_lit 28) (Nat.mul (nat_lit 3) (Nat.sub (nat_lit 1) f)))))] = ([.ref (al (28 + 3 * (1 - f))), .int (Int32.ofNat m), .long (Int64.ofInt z.1), .long (Int64.ofInt (z.2 * dsT c (s0 + 1) m))] : List Value).reverse ++ [] := by
      have e1 : sJ r' (.pow (.mul (.var (Nat.add (Nat.mul (nat_lit 4096) (Nat.add (nat_lit 30) (Nat.mul (nat_lit 3) f))) m)) (.natCast (x64 c (s0 + 1) m))) (nat_lit 22)) = Int64.ofInt (z.2 * dsT c (s0 + 1) m) := by
        show (sD _ _).2 = _
        rw [sD_b]
        show sJ r' _ * sJ r' _ = _
        rw [vb, Int64.ofInt_mul]
        exact congrArg _ (hX r')
      simp only [List.map_cons, List.map_nil, sVal, sI_c, va, e1]
      rfl
    refine (congrArg (fun st => At 60 _ st _) e60).mpr ?_
    refine hFC.2 60 63 2 21 _ _ [] _ _ ⟨_, _, rfl, rfl⟩ rfl (by decide) rfl (gRecv_f (f := 1 - f) (by omega) rfl) (c_addX (f := 1 - f) l (by omega) (by omega) (by omega) (hT m hmd).1 (hT m hmd).2 hg1.1 hg1.2.1 hg1.2.2) (fun v1 w2 h => ?_)
    obtain ⟨rfl, r2, k1, k2, k3, rfl⟩ := h
    have kp2 := kp_trans hk (kp_Ad (by omega) (by omega) k1)
    have hF2 := rowF_st hf d6 (by omega) (show 1 - f ≠ f by omega) k1 hF
    have hT2 := rowF_ad (show 1 - f < 2 by omega) d6 hmd hg1l k1 k2 k3 hT
    generalize hrow : adR row m z.1 (z.2 * dsT c (s0 + 1) m) = row1 at hg2 hg3 hT2
    have hl1 : row1.length = dOf c := by rw [← hrow, adR_len]; exact hl
    have hRt : ∀ r2, kp 0 68 tXv r r2 → rowF (1 - f) (dOf c) (goL c (s0 + 1) vs (m + 1) (go2 c (s0 + 1) m z row1)) r2 → Rt none (tW r2 al cy rest 68 tXv) := fun r2 q1 q2 => hR r2 q1 (by
      show rowF (1 - f) (dOf c) (goL c (s0 + 1) vs (Nat.succ m) (go2 c (s0 + 1) m z (adR row m z.1 (z.2 * dsT c (s0 + 1) m)))) r2
      rw [hrow]
      exact q2)
    have hlv : ∀ j, j < vs.length → getZ vs j = getZ v (m + 1 + j) := fun j hj => by
      have := hv (j + 1) (by rw [List.length_cons]; omega)
      rw [show m + 1 + j = m + (j + 1) by omega]
      exact this
    obtain ⟨va2, vb2⟩ := go_bv hF2 hmd
    rw [← hz] at va2 vb2
    obtain ⟨-, hch⟩ := ds_bd hc (show s0 + 1 < 5 by omega) (show m < 6 by omega)
    -- the second sum
    have second : ∀ (pc nx : Nat) (LV : List (Option Value)) (C E : Int), gRow 44 pc nx 2 → chN9 c (s0 + 1) m < dOf c → C = g2C c (s0 + 1) m z → E = g2D c (s0 + 1) m z → (∀ r3, At nx LV [] (tW r3 al cy rest 68 tXv) ∨ ¬ (kp 0 68 tXv r r3 ∧ rowF f (dOf c) v r3 ∧ rowF (1 - f) (dOf c) (go2 c (s0 + 1) m z row1) r3)) → At pc LV (([.ref (al (28 + 3 * (1 - f))), .int (Int32.ofNat (chN9 c (s0 + 1) m)), .long (Int64.ofInt C), .long (Int64.ofInt E)] : List Value).reverse ++ []) (tW r2 al cy rest 68 tXv) := fun pc nx LV C E hrw hlt hC hE hA => by
      have hne : Nat.beq (chN9 c (s0 + 1) m) (nat_lit 9) = false := by
        cases hh : Nat.beq (chN9 c (s0 + 1) m) (nat_lit 9) with
        | false => rfl
        | true =>
          have : chN9 c (s0 + 1) m = 9 := Nat.eq_of_beq_eq_true hh
          omega
      unfold go2G at hg2
      rw [hne] at hg2
      obtain ⟨hg2, hg2l⟩ : rg (getZ row1 (chN9 c (s0 + 1) m)).1 (getZ row1 (chN9 c (s0 + 1) m)).2 (g2C c (s0 + 1) m z) (g2D c (s0 + 1) m z) ∧ chN9 c (s0 + 1) m < row1.length := hg2
      rw [← hC, ← hE] at hg2
      refine hFC.2 pc nx 2 21 _ _ [] _ _ hrw rfl (by decide) rfl (gRecv_f (f := 1 - f) (by omega) rfl) (c_addX (f := 1 - f) l (by omega) (by omega) (by omega) (hT2 _ hlt).1 (hT2 _ hlt).2 hg2.1 hg2.2.1 hg2.2.2) (fun v1 w2 h => ?_)
      obtain ⟨rfl, r3, k4, k5, k6, rfl⟩ := h
      rcases hA r3 with h | h
      · exact h
      · refine absurd ⟨kp_trans kp2 (kp_Ad (by omega) (by omega) k4), rowF_st hf d6 (by omega) (show 1 - f ≠ f by omega) k4 hF2, ?_⟩ h
        unfold go2
        rw [hne, ← hC, ← hE]
        exact rowF_ad (show 1 - f < 2 by omega) d6 hlt hg2l k4 k5 k6 hT2
    have back : ∀ (pc : Nat) (b5 b6 b7 b8 b9 b10 b11 : Option Value) (r3 : sE), pc = 92 ∨ pc = 124 → kp 0 68 tXv r r3 → rowF f (dOf c) v r3 → rowF (1 - f) (dOf c) (go2 c (s0 + 1) m z row1) r3 → At pc [some (.ref (al 24)), some (.ref (al (28 + 3 * f))), some (.int (Int32.ofNat (s0 + 1))), some (.ref (al (28 + 3 * (1 - f)))), some (.int (Int32.ofNat m)), b5, b6, b7, b8, b9, b10, b11] [] (tW r3 al cy rest 68 tXv) := fun pc b5 b6 b7 b8 b9 b10 b11 r3 hpc q1 q2 q3 => by
      refine wk7 hLD ?_
      have hq := allL_ok (allL_ok (allL_ok q_go2 (s0 + 1) (by omega)) f hf) m (by omega)
      rw [Bool.and_eq_true] at hq
      have key := ih (m + 1) (go2 c (s0 + 1) m z row1) r3 (by omega) hlv (by
        unfold go2
        cases Nat.beq (chN9 c (s0 + 1) m) (nat_lit 9) with
        | true => exact hl1
        | false => exact (adR_len _ _).trans hl1) hg3 q1 q2 q3 hRt
      rcases hpc with rfl | rfl
      · have g := g_pure hFC (al := al) (r := r3) (w := tW r3 al cy rest 68 tXv) sPa_nil hq.1 (fun pc L st hk => ?_) (fun v hk => nomatch hk)
        · rw [L70_eq] at g
          exact g
        obtain ⟨rfl, rfl, rfl⟩ := kAt_ok hk
        rw [L70_eq]
        exact key
      · have g := g_pure hFC (al := al) (r := r3) (w := tW r3 al cy rest 68 tXv) sPa_nil hq.2 (fun pc L st hk => ?_) (fun v hk => nomatch hk)
        · rw [L70_eq] at g
          exact g
        obtain ⟨rfl, rfl, rfl⟩ := kAt_ok hk
        rw [L70_eq]
        exact key
    have eLo : (LGo c (s0 + 1) f m).map (Option.map (sVal r' al)) = (LGo c (s0 + 1) f m).map (Option.map (sVal r2 al)) := by
      simp only [LGo, List.map_cons, List.map_nil, Option.map_some, Option.map_none, sVal, sI_c, va, vb, va2, vb2]
      rw [hX r', hX r2]
    rw [eLo]
    refine g_segS hFC (r := r2) (st := []) (tX_ok hc) (kpX_cC hc kp2 hcc) sPa_nil oX_nil (q_go1 hc hs1 hs hf hmd) (fun pc L st pa hk3 hp => ?_) (fun v pa hk => nomatch hk)
    rw [Bool.or_eq_true, Bool.and_eq_true, Bool.and_eq_true, Bool.or_eq_true, Bool.and_eq_true, Bool.and_eq_true, Bool.and_eq_true] at hk3
    rcases hk3 with ⟨h1, h2⟩ | ⟨h0, ⟨h1, h2⟩ | ⟨⟨h1, h3⟩, h2⟩⟩
    · -- none
      obtain ⟨rfl, rfl, rfl⟩ := kAt_ok h2
      simp only [LGn, List.map_cons, List.map_nil, Option.map_some, Option.map_none, sVal, sI_c]
      refine wk7 hLD ?_
      have e2 : go2 c (s0 + 1) m z row1 = row1 := by
        unfold go2
        rw [h1]
      rw [e2] at hg3 hRt
      exact ih (m + 1) row1 r2 (by omega) hlv hl1 hg3 kp2 hF2 hT2 hRt
    · -- behind
      obtain ⟨rfl, rfl, rfl⟩ := kAt_ok h2
      have hlt : chN9 c (s0 + 1) m < dOf c := by
        rcases hch with h | h
        · rw [h] at h0
          exact nomatch h0
        · exact h
      have hC : z.1 = g2C c (s0 + 1) m z := by
        unfold g2C
        rw [h1]
      have hE : z.2 = g2D c (s0 + 1) m z := by
        unfold g2D
        rw [h1]
      have e89 : List.map (sVal r2 al) [.inr (.inl (.var (Nat.add (Nat.mul (nat_lit 4096) (Nat.add (nat_lit 30) (Nat.mul (nat_lit 3) f))) m))), .inr (.inl (.var (Nat.add (Nat.mul (nat_lit 4096) (Nat.add (nat_lit 29) (Nat.mul (nat_lit 3) f))) m))), .inl (.natCast (chN9 c (s0 + 1) m)), .inr (.inr (some (Nat.add (nat_lit 28) (Nat.mul (nat_lit 3) (Nat.sub (nat_lit 1) f)))))] = ([.ref (al (28 + 3 * (1 - f))), .int (Int32.ofNat (chN9 c (s0 + 1) m)), .long (Int64.ofInt z.1), .long (Int64.ofInt z.2)] : List Value).reverse ++ [] := by
        simp only [List.map_cons, List.map_nil, sVal, sI_c, va2, vb2]
        rfl
      refine (congrArg (fun st => At 89 _ st _) e89).mpr ?_
      refine second 89 92 _ _ _ ⟨_, _, rfl, rfl⟩ hlt hC hE (fun r3 => ?_)
      by_cases hgd : kp 0 68 tXv r r3 ∧ rowF f (dOf c) v r3 ∧ rowF (1 - f) (dOf c) (go2 c (s0 + 1) m z row1) r3
      · refine Or.inl ?_
        simp only [LGj, List.map_cons, List.map_nil, Option.map_some, Option.map_none, sVal, sI_c]
        exact back 92 _ _ _ _ _ _ _ r3 (Or.inl rfl) hgd.1 hgd.2.1 hgd.2.2
      · exact Or.inr hgd
    · -- ahead
      obtain ⟨rfl, rfl, rfl⟩ := kAt_ok h2
      have h1 : chN9 c (s0 + 1) m + 1 ≤ m := Nat.le_of_ble_eq_true h1
      have h8 : dsN c (s0 + 1) m ≠ 8 := fun q => by
        rw [q] at h3
        exact nomatch h3
      have hb : Nat.ble (Nat.succ m) (chN9 c (s0 + 1) m) = false := by
        cases hh : Nat.ble (Nat.succ m) (chN9 c (s0 + 1) m) with
        | false => rfl
        | true =>
          have : m + 1 ≤ chN9 c (s0 + 1) m := Nat.le_of_ble_eq_true hh
          omega
      have hC : z.1 * (dsT c (s0 + 1) m * dsT c (s0 + 1) m - 1) = g2C c (s0 + 1) m z := by
        unfold g2C
        rw [hb]
      have hE : z.2 * dsT c (s0 + 1) m * dsT c (s0 + 1) m = g2D c (s0 + 1) m z := by
        unfold g2D
        rw [hb]
      have e121 : List.map (sVal r2 al) [.inr (.inl (.pow (.mul (.pow (.mul (.var (Nat.add (Nat.mul (nat_lit 4096) (Nat.add (nat_lit 30) (Nat.mul (nat_lit 3) f))) m)) (.natCast (x64 c (s0 + 1) m))) (nat_lit 22)) (.natCast (x64 c (s0 + 1) m))) (nat_lit 22))), .inr (.inl (.pow (.mul (.var (Nat.add (Nat.mul (nat_lit 4096) (Nat.add (nat_lit 29) (Nat.mul (nat_lit 3) f))) m)) (.natCast (q64 c (s0 + 1) m))) (nat_lit 22))), .inl (.natCast (chN9 c (s0 + 1) m)), .inr (.inr (some (Nat.add (nat_lit 28) (Nat.mul (nat_lit 3) (Nat.sub (nat_lit 1) f)))))] = ([.ref (al (28 + 3 * (1 - f))), .int (Int32.ofNat (chN9 c (s0 + 1) m)), .long (Int64.ofInt (z.1 * (dsT c (s0 + 1) m * dsT c (s0 + 1) m - 1))), .long (Int64.ofInt (z.2 * dsT c (s0 + 1) m * dsT c (s0 + 1) m))] : List Value).reverse ++ [] := by
        have q1 : sJ r2 (.pow (.mul (.var (Nat.add (Nat.mul (nat_lit 4096) (Nat.add (nat_lit 29) (Nat.mul (nat_lit 3) f))) m)) (.natCast (q64 c (s0 + 1) m))) (nat_lit 22)) = Int64.ofInt (z.1 * (dsT c (s0 + 1) m * dsT c (s0 + 1) m - 1)) := by
          show (sD _ _).2 = _
          rw [sD_b]
          show sJ r2 _ * sJ r2 _ = _
          rw [va2, Int64.ofInt_mul, ← q64_ok h8]
          simp only [sJ, sD_c]
        have q2 : sJ r2 (.pow (.mul (.pow (.mul (.var (Nat.add (Nat.mul (nat_lit 4096) (Nat.add (nat_lit 30) (Nat.mul (nat_lit 3) f))) m)) (.natCast (x64 c (s0 + 1) m))) (nat_lit 22)) (.natCast (x64 c (s0 + 1) m))) (nat_lit 22)) = Int64.ofInt (z.2 * dsT c (s0 + 1) m * dsT c (s0 + 1) m) := by
          show (sD _ _).2 = _
          rw [sD_b, sD_b]
          show sJ r2 _ * sJ r2 _ * sJ r2 _ = _
          rw [vb2, Int64.ofInt_mul, Int64.ofInt_mul]
          exact congrArg (fun q => Int64.ofInt z.2 * q * q) (hX r2)
        simp only [List.map_cons, List.map_nil, sVal, sI_c, q1, q2]
        rfl
      refine (congrArg (fun st => At 121 _ st _) e121).mpr ?_
      refine second 121 124 _ _ _ ⟨_, _, rfl, rfl⟩ (by omega) hC hE (fun r3 => ?_)
      by_cases hgd : kp 0 68 tXv r r3 ∧ rowF f (dOf c) v r3 ∧ rowF (1 - f) (dOf c) (go2 c (s0 + 1) m z row1) r3
      · refine Or.inl ?_
        simp only [LGj, List.map_cons, List.map_nil, Option.map_some, Option.map_none, sVal, sI_c]
        exact back 124 _ _ _ _ _ _ _ r3 (Or.inr rfl) hgd.1 hgd.2.1 hgd.2.2
      · exact Or.inr hgd
/-- goOn -/
theorem c_goX (l : Launch) {D : va_G} {cy : Nat → ClassId} {al : Nat → Nat} {rest : va_W} {r : sE} {c s f dd : Nat} {v : zR} (hdd : 22 ≤ dd) (hc : c < 18) (hs1 : 1 ≤ s) (hs : s < nOf c) (hf : f < 2) (hcc : cC 0 68 (tX c) r) (hl : v.length = dOf c) (hF : rowF f (dOf c) v r) (hG : goG c s v 0 (zero (dOf c))) : gMet l D cy al dd 44 (tW r al cy rest 68 tXv) [.ref (al 24), .ref (al (28 + 3 * f)), .int (Int32.ofNat s), .ref (al (28 + 3 * (1 - f)))] (fun x w => x = none ∧ ∃ r1, kp 0 68 tXv r r1 ∧ rowF (1 - f) (dOf c) (goL c s v 0 (zero (dOf c))) r1 ∧ w = tW r1 al cy rest 68 tXv) := by
  refine gMet_up hdd ?_
  have d6 := (cd_tab c hc).1.2
  have n5 := (cd_tab c hc).2.2
  have key := gMet_ofD (l := l) (D := D) (cy := cy) (al := al) (d := 22) (k := 44) (w := tW r al cy rest 68 tXv) (r := r) (G := fun x w => x = none ∧ ∃ r1, kp 0 68 tXv r r1 ∧ rowF (1 - f) (dOf c) (goL c s v 0 (zero (dOf c))) r1 ∧ w = tW r1 al cy rest 68 tXv) (allL_ok (allL_ok q_goE s (by omega)) f hf) (fun At hFC hLD => ?_)
  · have e1 : List.map (sVal r al) [.inr (.inr (some (nat_lit 24))), .inr (.inr (some (Nat.add (nat_lit 28) (Nat.mul (nat_lit 3) f)))), .inl (.natCast s), .inr (.inr (some (Nat.add (nat_lit 28) (Nat.mul (nat_lit 3) (Nat.sub (nat_lit 1) f)))))] = [.ref (al 24), .ref (al (28 + 3 * f)), .int (Int32.ofNat s), .ref (al (28 + 3 * (1 - f)))] := by
      simp only [List.map_cons, List.map_nil, sVal, sI_c]
      rfl
    rw [e1] at key
    exact key
  refine g_segH hFC (r := r) (by omega) tXv_ok (cC_X _) sPa_nil oX_nil (allL_ok (allL_ok q_go0 s (by omega)) f hf) (fun m0 pc L st pa m hk3 hp hk4 hH => ?_) (fun m0 v pa m hk => nomatch hk)
  rw [Bool.and_eq_true] at hk3
  obtain ⟨rfl, rfl, rfl⟩ := kAt_ok hk3.1
  rw [L70_eq]
  exact go_loop hFC hLD hc hs1 hs hf hcc v 0 (zero (dOf c)) _ (by omega) (fun j _ => by rw [Nat.zero_add]) (zero_len _) hG (kp_C (show 1 - f < 2 by omega) hk4) (rowF_C hf d6 hk4 hF) (rowF_0 d6 (fun j hj => by
    have := allL_ok hk3.2 j hj
    rw [Bool.and_eq_true] at this
    exact this)) (fun r2 q1 q2 => ⟨rfl, r2, q1, q2, rfl⟩)
