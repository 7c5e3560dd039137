/-! 83: shape (by wip/whole/mk83.py) -/
noncomputable def KXs2 : Nat → Bool := memB [nat_lit 0, nat_lit 1, nat_lit 2, nat_lit 3, nat_lit 4, nat_lit 5, nat_lit 6, nat_lit 7, nat_lit 8, nat_lit 9, nat_lit 10, nat_lit 11, nat_lit 12, nat_lit 13, nat_lit 14, nat_lit 15, nat_lit 16, nat_lit 17, nat_lit 18, nat_lit 19, nat_lit 20, nat_lit 21, nat_lit 22, nat_lit 23, nat_lit 24, nat_lit 25, nat_lit 26, nat_lit 27, nat_lit 34, nat_lit 35, nat_lit 36, nat_lit 37, nat_lit 38, nat_lit 39, nat_lit 40, nat_lit 41, nat_lit 42, nat_lit 43, nat_lit 44]
noncomputable def KMs2 : Nat → Bool := memB [nat_lit 0, nat_lit 1, nat_lit 2, nat_lit 3, nat_lit 4, nat_lit 5, nat_lit 6, nat_lit 7, nat_lit 10]
noncomputable def chS2 (u : Nat) : Bool := Bool.or (memB [nat_lit 282625, nat_lit 282628, nat_lit 282641] u) (memB [nat_lit 1, nat_lit 2, nat_lit 3, nat_lit 4, nat_lit 5, nat_lit 6, nat_lit 7, nat_lit 8, nat_lit 9, nat_lit 10, nat_lit 11, nat_lit 12, nat_lit 13, nat_lit 14, nat_lit 15, nat_lit 16, nat_lit 17, nat_lit 18, nat_lit 19, nat_lit 20, nat_lit 21, nat_lit 22, nat_lit 23, nat_lit 24, nat_lit 25, nat_lit 26, nat_lit 27, nat_lit 34, nat_lit 35, nat_lit 36, nat_lit 37, nat_lit 38, nat_lit 39, nat_lit 40, nat_lit 41, nat_lit 42, nat_lit 43, nat_lit 44, nat_lit 70, nat_lit 71, nat_lit 72, nat_lit 73, nat_lit 74, nat_lit 75, nat_lit 76, nat_lit 79] (Nat.div u (nat_lit 4096)))
theorem KXs2_t : allL 18 (fun c => allL 68 (fun i => Bool.or (KXs2 i) (eqC (tX c i) (tXv i)))) = true := by decide +kernel
theorem KMs2_t : allL 18 (fun c => allL 45 (fun i => Bool.or (KMs2 i) (eqC (tM c i) (tMv i)))) = true := by decide +kernel
theorem chS2_ok : allL 3 (fun i => lAll (fun u => Bool.not (chS2 u)) (cPl (Nat.add (nat_lit 9) i))) = true := by decide +kernel
noncomputable def ckHX (x0 : sM) (pa : List sK) (x : sM) : Bool := Bool.and (frM (nat_lit 0) chS2 x0 (nat_lit 0) x) (Bool.and (eqC0 x (nat_lit 44) (nat_lit 0) (nat_lit 0)) (Bool.and (allL 4 (fun q => eqC0 x (nat_lit 34) q (nat_lit 344865))) (allL 4 (fun s => Bool.or (Bool.and (paY (.var (Nat.add (nat_lit 147456) (Nat.mul (nat_lit 8192) s))) (.natCast (nat_lit 1)) pa) (eqC0 x (Nat.add (nat_lit 36) (Nat.mul (nat_lit 2) s)) (nat_lit 0) (nat_lit 0)))
  (Bool.and (paN (.var (Nat.add (nat_lit 147456) (Nat.mul (nat_lit 8192) s))) (.natCast (nat_lit 1)) pa) (Bool.and (Bool.and (eqE0 x (Nat.add (nat_lit 36) (Nat.mul (nat_lit 2) s)) (nat_lit 0) (.var (Nat.add (nat_lit 147456) (Nat.mul (nat_lit 8192) s)))) (eqE0 x (Nat.add (nat_lit 36) (Nat.mul (nat_lit 2) s)) (nat_lit 1) (.var (xpZ s)))) (allL 20 (fun j => eqE0 x (Nat.add (nat_lit 37) (Nat.mul (nat_lit 2) s)) j (.var (xpN s j))))))))))
noncomputable def ckHM (m0 : sM) (pa : List sK) (m : sM) : Bool := Bool.and (frM (nat_lit 69) chS2 m0 (nat_lit 0) m) (Bool.and (eqC0 m (nat_lit 0) (nat_lit 17) (nat_lit 0)) (Bool.and (allL 4 (fun q => allL 5 (fun i => eqC0 m (nat_lit 6) (Nat.add (Nat.add (Nat.mul (nat_lit 6) q) (nat_lit 1)) i) (Nat.succ i)))) (allL 4 (fun s => Bool.or (Bool.and (paY (.var (Nat.add (nat_lit 311296) s)) (.natCast (nat_lit 1)) pa) (eqC0 m (nat_lit 7) s (nat_lit 0))) (Bool.and (paN (.var (Nat.add (nat_lit 311296) s)) (.natCast (nat_lit 1)) pa) (eqE0 m (nat_lit 7) s (.var (Nat.add (nat_lit 311296) s))))))))
noncomputable def asH (c : Nat) : List sV := [.inl (.natCast (nthO (lensOf c) 0)), .inl (.natCast (nthO (lensOf c) 1)), .inl (.natCast (nthO (lensOf c) 2)), .inl (.natCast (nthO (lensOf c) 3)), .inl (.natCast (nthO (lensOf c) 4))]
noncomputable def shpX (c : Nat) : Bool := rX2 (nat_lit 100000) (nat_lit 200) (nat_lit 88) tXv (tX c) KXs2 (nat_lit 0) (nat_lit 68) [] [] (asH c) (.inl (.natCast (dOf c))) ckHX
noncomputable def shpM (c : Nat) : Bool := rX2 (nat_lit 100000) (nat_lit 200) (nat_lit 144) tMv (tM c) KMs2 (nat_lit 69) (nat_lit 45) [(nat_lit 1, nat_lit 5, .natCast (nat_lit 0))] [] (asH c) (.inl (.natCast (dOf c))) ckHM
theorem q_shpX_0 : allL 8 (fun i => shpX (Nat.add (nat_lit 0) i)) = true := by decide +kernel
theorem q_shpX_1 : allL 4 (fun i => shpX (Nat.add (nat_lit 8) i)) = true := by decide +kernel
theorem q_shpX_2 : allL 1 (fun i => shpX (Nat.add (nat_lit 12) i)) = true := by decide +kernel
theorem q_shpX_3 : allL 1 (fun i => shpX (Nat.add (nat_lit 13) i)) = true := by decide +kernel
theorem q_shpX_4 : allL 1 (fun i => shpX (Nat.add (nat_lit 14) i)) = true := by decide +kernel
theorem q_shpX_5 : allL 1 (fun i => shpX (Nat.add (nat_lit 15) i)) = true := by decide +kernel
theorem q_shpX_6 : allL 1 (fun i => shpX (Nat.add (nat_lit 16) i)) = true := by decide +kernel
theorem q_shpX_7 : allL 1 (fun i => shpX (Nat.add (nat_lit 17) i)) = true := by decide +kernel
theorem q_shpX {c : Nat} (hc : c < 18) : shpX c = true := by
  by_cases h0 : c < 8
  · have := allL_ok q_shpX_0 (c - 0) (by omega)
    rwa [show Nat.add (nat_lit 0) (c - 0) = c by show 0 + (c - 0) = c; omega] at this
  by_cases h1 : c < 12
  · have := allL_ok q_shpX_1 (c - 8) (by omega)
    rwa [show Nat.add (nat_lit 8) (c - 8) = c by show 8 + (c - 8) = c; omega] at this
  by_cases h2 : c < 13
  · have := allL_ok q_shpX_2 (c - 12) (by omega)
    rwa [show Nat.add (nat_lit 12) (c - 12) = c by show 12 + (c - 12) = c; omega] at this
  by_cases h3 : c < 14
  · have := allL_ok q_shpX_3 (c - 13) (by omega)
    rwa [show Nat.add (nat_lit 13) (c - 13) = c by show 13 + (c - 13) = c; omega] at this
  by_cases h4 : c < 15
  · have := allL_ok q_shpX_4 (c - 14) (by omega)
    rwa [show Nat.add (nat_lit 14) (c - 14) = c by show 14 + (c - 14) = c; omega] at this
  by_cases h5 : c < 16
  · have := allL_ok q_shpX_5 (c - 15) (by omega)
    rwa [show Nat.add (nat_lit 15) (c - 15) = c by show 15 + (c - 15) = c; omega] at this
  by_cases h6 : c < 17
  · have := allL_ok q_shpX_6 (c - 16) (by omega)
    rwa [show Nat.add (nat_lit 16) (c - 16) = c by show 16 + (c - 16) = c; omega] at this
  have := allL_ok q_shpX_7 (c - 17) (by omega)
  rwa [show Nat.add (nat_lit 17) (c - 17) = c by show 17 + (c - 17) = c; omega] at this
theorem q_shpM_0 : allL 7 (fun i => shpM (Nat.add (nat_lit 0) i)) = true := by decide +kernel
theorem q_shpM_1 : allL 5 (fun i => shpM (Nat.add (nat_lit 7) i)) = true := by decide +kernel
theorem q_shpM_2 : allL 2 (fun i => shpM (Nat.add (nat_lit 12) i)) = true := by decide +kernel
theorem q_shpM_3 : allL 2 (fun i => shpM (Nat.add (nat_lit 14) i)) = true := by decide +kernel
theorem q_shpM_4 : allL 2 (fun i => shpM (Nat.add (nat_lit 16) i)) = true := by decide +kernel
theorem q_shpM {c : Nat} (hc : c < 18) : shpM c = true := by
  by_cases h0 : c < 7
  · have := allL_ok q_shpM_0 (c - 0) (by omega)
    rwa [show Nat.add (nat_lit 0) (c - 0) = c by show 0 + (c - 0) = c; omega] at this
  by_cases h1 : c < 12
  · have := allL_ok q_shpM_1 (c - 7) (by omega)
    rwa [show Nat.add (nat_lit 7) (c - 7) = c by show 7 + (c - 7) = c; omega] at this
  by_cases h2 : c < 14
  · have := allL_ok q_shpM_2 (c - 12) (by omega)
    rwa [show Nat.add (nat_lit 12) (c - 12) = c by show 12 + (c - 12) = c; omega] at this
  by_cases h3 : c < 16
  · have := allL_ok q_shpM_3 (c - 14) (by omega)
    rwa [show Nat.add (nat_lit 14) (c - 14) = c by show 14 + (c - 14) = c; omega] at this
  have := allL_ok q_shpM_4 (c - 16) (by omega)
  rwa [show Nat.add (nat_lit 16) (c - 16) = c by show 16 + (c - 16) = c; omega] at this
noncomputable def sumL : sX := (.pow (.mul (.pow (.mul (.pow (.mul (.pow (.mul (.pow (.neg (.var (nat_lit 819200))) (nat_lit 21)) (.pow (.neg (.var (nat_lit 819201))) (nat_lit 21))) (nat_lit 20)) (.pow (.neg (.var (nat_lit 819202))) (nat_lit 21))) (nat_lit 20)) (.pow (.neg (.var (nat_lit 819203))) (nat_lit 21))) (nat_lit 20)) (.pow (.neg (.var (nat_lit 819204))) (nat_lit 21))) (nat_lit 20))
noncomputable def sumI : sX := (.pow (.mul (.pow (.mul (.pow (.mul (.pow (.mul (.var (nat_lit 819200)) (.var (nat_lit 819201))) (nat_lit 0)) (.var (nat_lit 819202))) (nat_lit 0)) (.var (nat_lit 819203))) (nat_lit 0)) (.var (nat_lit 819204))) (nat_lit 0))
noncomputable def paH (k : Nat) : List sK := Nat.rec (motive := fun _ => List sK) [(false, true, .var (nat_lit 819200), .var (nat_lit 819201))] (fun k _ => Nat.rec (motive := fun _ => List sK) [(false, true, .var (nat_lit 819201), .var (nat_lit 819202)), (false, false, .var (nat_lit 819200), .var (nat_lit 819201))] (fun k _ => Nat.rec (motive := fun _ => List sK) [(false, true, .var (nat_lit 819202), .var (nat_lit 819203)), (false, false, .var (nat_lit 819200), .var (nat_lit 819201)), (false, false, .var (nat_lit 819201), .var (nat_lit 819202))] (fun k _ => Nat.rec (motive := fun _ => List sK) [(false, true, .var (nat_lit 819203), .var (nat_lit 819204)), (false, false, .var (nat_lit 819200), .var (nat_lit 819201)), (false, false, .var (nat_lit 819201), .var (nat_lit 819202)), (false, false, .var (nat_lit 819202), .var (nat_lit 819203))] (fun k _ => Nat.rec (motive := fun _ => List sK) [(false, true, .var (nat_lit 819204), .natCast (nat_lit 0)), (false, false, .var (nat_lit 819200), .var (nat_lit 819201)), (false, false, .var (nat_lit 819201), .var (nat_lit 819202)), (false, false, .var (nat_lit 819202), .var (nat_lit 819203)), (false, false, .var (nat_lit 819203), .var (nat_lit 819204))] (fun k _ => Nat.rec (motive := fun _ => List sK) [(false, true, .var (nat_lit 819200), .natCast (nat_lit 1)), (false, false, .var (nat_lit 819200), .var (nat_lit 819201)), (false, false, .var (nat_lit 819201), .var (nat_lit 819202)), (false, false, .var (nat_lit 819202), .var (nat_lit 819203)), (false, false, .var (nat_lit 819203), .var (nat_lit 819204)), (false, false, .var (nat_lit 819204), .natCast (nat_lit 0))] (fun k _ => Nat.rec (motive := fun _ => List sK) [(false, true, .natCast (nat_lit 0), .pow (.mul sumL (.natCast (nat_lit 5))) (nat_lit 10)), (false, true, .natCast (nat_lit 5), .var (nat_lit 819200)), (false, false, .var (nat_lit 819200), .natCast (nat_lit 1)), (false, false, .var (nat_lit 819200), .var (nat_lit 819201)), (false, false, .var (nat_lit 819201), .var (nat_lit 819202)), (false, false, .var (nat_lit 819202), .var (nat_lit 819203)), (false, false, .var (nat_lit 819203), .var (nat_lit 819204)), (false, false, .var (nat_lit 819204), .natCast (nat_lit 0))] (fun _ _ => [(false, true, .natCast (nat_lit 0), .pow (.mul sumL (.natCast (nat_lit 5))) (nat_lit 10)), (false, true, .natCast (nat_lit 5), sumI), (false, false, .natCast (nat_lit 5), .var (nat_lit 819200)), (false, false, .var (nat_lit 819200), .natCast (nat_lit 1)), (false, false, .var (nat_lit 819200), .var (nat_lit 819201)), (false, false, .var (nat_lit 819201), .var (nat_lit 819202)), (false, false, .var (nat_lit 819202), .var (nat_lit 819203)), (false, false, .var (nat_lit 819203), .var (nat_lit 819204)), (false, false, .var (nat_lit 819204), .natCast (nat_lit 0))]) k) k) k) k) k) k) k
theorem crJ_shp : crJ (memB [nat_lit 0]) (memB [nat_lit 0]) scQ = true := by decide +kernel
theorem q_shpN : allL 8 (fun k => jRun (nat_lit 100000) (nat_lit 200) tXv tXv tMv tMv (nat_lit 88) (nat_lit 144) (memB [nat_lit 0]) (memB [nat_lit 0]) [] [] (paH k) [.inl (.var (nat_lit 819200)), .inl (.var (nat_lit 819201)), .inl (.var (nat_lit 819202)), .inl (.var (nat_lit 819203)), .inl (.var (nat_lit 819204))] (fun x0 m0 pa x m => frJ scQ x0 m0 x m)) = true := by decide +kernel
theorem lc_pos {x : Int64} (h : 5 < x.toInt) : (0 : Int32) < lg_cmp x (Int64.ofNat 5) := by
  unfold lg_cmp
  rw [if_pos (by
    show Int64.ofNat 5 < x
    rw [Int64.lt_iff_toInt_lt]
    exact h)]
  decide
noncomputable def isSh (a b c d e : Nat) : Bool := Bool.and (Bool.and (Bool.and (Nat.ble b a) (Nat.ble c b)) (Bool.and (Nat.ble d c) (Nat.ble e d))) (Bool.and (Nat.ble (nat_lit 1) a) (Nat.ble (Nat.add (Nat.add (Nat.add (Nat.add a b) c) d) e) (nat_lit 5)))
noncomputable def anyN (n : Nat) (f : Nat → Bool) : Bool := Nat.rec (motive := fun _ => Bool) false (fun m ih => Bool.or (f m) ih) n
theorem anyN_ok {f : Nat → Bool} : ∀ {n : Nat}, anyN n f = true → ∃ k, k < n ∧ f k = true
  | 0, h => nomatch h
  | n + 1, h => by
    have h2 : Bool.or (f n) (anyN n f) = true := h
    rw [Bool.or_eq_true] at h2
    rcases h2 with h2 | h2
    · exact ⟨n, by omega, h2⟩
    · obtain ⟨k, h3, h4⟩ := anyN_ok h2
      exact ⟨k, by omega, h4⟩
theorem sh_tab : allL 6 (fun a => allL 6 (fun b => allL 6 (fun c => allL 6 (fun d => allL 6 (fun e => Bool.or (Bool.not (isSh a b c d e)) (anyN 18 (fun k => eqL Nat.beq (lensOf k) [a, b, c, d, e, nat_lit 0]))))))) = true := by decide +kernel
theorem idO_in : ∀ c, c < 18 → idO ∈ ordN (nOf c) := by decide +kernel
theorem kd_88 : (PG 88).2.2.2.2 = 1 := by decide +kernel
theorem mP89 : ∀ s, s < 4 → (mP 8 s ∈ cPl (4 + s) ∧ chS2 (mP 8 s) = false) ∧ ∀ j, j < 20 → mP 9 (20 * s) + j ∈ cPl (4 + s) ∧ chS2 (mP 9 (20 * s) + j) = false := by decide +kernel
theorem op_shape {l : Launch} {D : va_G} {cy : Nat → ClassId} {alX alM : Nat → Nat} : OpI l D cy alX alM 88 144 5 := by
  intro r as hI hlen
  obtain ⟨a0, a1, a2, a3, a4, rfl⟩ : ∃ a0 a1 a2 a3 a4, as = [a0, a1, a2, a3, a4] := by
    match as, hlen with
    | [a0, a1, a2, a3, a4], _ => exact ⟨a0, a1, a2, a3, a4, rfl⟩
  refine OpOk_uA [a0, a1, a2, a3, a4] ?_
  replace hI := Inv_uA (as := [a0, a1, a2, a3, a4]) hI
  have e0 : (uA r [a0, a1, a2, a3, a4]).1 819200 = a0 := uA_a 0
  have e1 : (uA r [a0, a1, a2, a3, a4]).1 819201 = a1 := uA_a 1
  have e2 : (uA r [a0, a1, a2, a3, a4]).1 819202 = a2 := uA_a 2
  have e3 : (uA r [a0, a1, a2, a3, a4]).1 819203 = a3 := uA_a 3
  have e4 : (uA r [a0, a1, a2, a3, a4]).1 819204 = a4 := uA_a 4
  generalize uA r [a0, a1, a2, a3, a4] = r at hI e0 e1 e2 e3 e4 ⊢
  have v0 : sI r (.var (nat_lit 819200)) = a0 := by rw [sI_v]; exact e0
  have v1 : sI r (.var (nat_lit 819201)) = a1 := by rw [sI_v]; exact e1
  have v2 : sI r (.var (nat_lit 819202)) = a2 := by rw [sI_v]; exact e2
  have v3 : sI r (.var (nat_lit 819203)) = a3 := by rw [sI_v]; exact e3
  have v4 : sI r (.var (nat_lit 819204)) = a4 := by rw [sI_v]; exact e4
  have k0 : sI r (.natCast (nat_lit 0)) = 0 := sI_c
  have k1 : sI r (.natCast (nat_lit 1)) = 1 := sI_c
  have k5 : sI r (.natCast (nat_lit 5)) = 5 := sI_c
  have bad : ∀ k, k < 8 → sPa r (paH k) → OpOk l D cy alX alM 200 r 88 144 (List.map Value.int [a0, a1, a2, a3, a4]) Inv := fun k hk hp => by
    refine jOk l tXv_ok tXv_ok tMv_ok tMv_ok (cC_X r) (cC_M r) hp (fun _ _ _ => rfl) (fun _ _ _ => rfl) oX_nil oM_nil ?_ ?_ (allL_ok q_shpN k hk) (fun x0 m0 pa x m hx0 hm0 hck hp hfx hfm _ _ => Inv_qv crJ_shp hx0 hm0 hfx hfm hck hI)
    · simp only [List.map_cons, List.map_nil, sVal, v0, v1, v2, v3, v4]
    · simp only [List.map_cons, List.map_nil, sVal, v0, v1, v2, v3, v4]
  have z0 : (0 : Int32).toInt = 0 := by decide
  have z1 : (1 : Int32).toInt = 1 := by decide
  have z5 : (5 : Int32).toInt = 5 := by decide
  have sJL : (sJ r sumL).toInt = (((a0.toInt64 + a1.toInt64) + a2.toInt64) + a3.toInt64 + a4.toInt64).toInt := by
    have u : ∀ (i : Nat) (x : Int32), sI r (.var i) = x → (sD r (.pow (.neg (.var i)) 21)).2 = x.toInt64 := fun i x h => by
      rw [sD_u]
      show (sD r (.var i)).1.toInt64 = _
      rw [show (sD r (.var i)).1 = x from h]
    have p : ∀ (x y : sX), (sD r (.pow (.mul x y) 20)).2 = (sD r x).2 + (sD r y).2 := fun x y => by rw [sD_b]; rfl
    show ((sD r sumL).2).toInt = _
    unfold sumL
    rw [p, p, p, p, u _ _ v0, u _ _ v1, u _ _ v2, u _ _ v3, u _ _ v4]
  have sIL : sI r sumI = a0 + a1 + a2 + a3 + a4 := by
    have p : ∀ (x y : sX), sI r (.pow (.mul x y) 0) = sI r x + sI r y := fun x y => by
      show (sD r (.pow (.mul x y) 0)).1 = _
      rw [sD_b]
      rfl
    unfold sumI
    rw [p, p, p, p, v0, v1, v2, v3, v4]
  have bl : ∀ x : Int32, -2147483648 ≤ x.toInt ∧ x.toInt ≤ 2147483647 := fun x => ⟨by have := Int32.le_toInt x; exact this, by have := Int32.toInt_lt x; omega⟩
  have lcF : 5 < a0.toInt + a1.toInt + a2.toInt + a3.toInt + a4.toInt → sKd r (false, true, .natCast (nat_lit 0), .pow (.mul sumL (.natCast (nat_lit 5))) (nat_lit 10)) := fun h => by
    show sI r (.natCast 0) < sI r (.pow (.mul sumL (.natCast 5)) 10)
    rw [show sI r (.natCast 0) = 0 from k0]
    show (0 : Int32) < (sD r (.pow (.mul sumL (.natCast 5)) 10)).1
    rw [sD_b]
    show (0 : Int32) < lg_cmp (sJ r sumL) (sD r (.natCast 5)).2
    rw [sD_c]
    refine lc_pos ?_
    rw [sJL]
    have b0 := bl a0
    have b1 := bl a1
    have b2 := bl a2
    have b3 := bl a3
    have b4 := bl a4
    simp only [Int64.toInt_add, Int32.toInt_toInt64, Int.bmod_def]
    omega
  by_cases h0 : a0 < a1
  · exact bad 0 (by omega) (sPa_cons.mpr ⟨by show sI r _ < sI r _; rw [v0, v1]; exact h0, sPa_nil⟩)
  have f0 : sPa r [(false, false, .var (nat_lit 819200), .var (nat_lit 819201))] := sPa_cons.mpr ⟨by show ¬ sI r _ < sI r _; rw [v0, v1]; exact h0, sPa_nil⟩
  by_cases h1 : a1 < a2
  · exact bad 1 (by omega) (sPa_cons.mpr ⟨by show sI r _ < sI r _; rw [v1, v2]; exact h1, f0⟩)
  have n1 : sKd r (false, false, .var (nat_lit 819201), .var (nat_lit 819202)) := by show ¬ sI r _ < sI r _; rw [v1, v2]; exact h1
  by_cases h2 : a2 < a3
  · exact bad 2 (by omega) (sPa_cons.mpr ⟨by show sI r _ < sI r _; rw [v2, v3]; exact h2, by
      simp only [sPa_cons] at f0 ⊢
      exact ⟨f0.1, n1, sPa_nil⟩⟩)
  have n2 : sKd r (false, false, .var (nat_lit 819202), .var (nat_lit 819203)) := by show ¬ sI r _ < sI r _; rw [v2, v3]; exact h2
  by_cases h3 : a3 < a4
  · exact bad 3 (by omega) (sPa_cons.mpr ⟨by show sI r _ < sI r _; rw [v3, v4]; exact h3, by
      simp only [sPa_cons] at f0 ⊢
      exact ⟨f0.1, n1, n2, sPa_nil⟩⟩)
  have n3 : sKd r (false, false, .var (nat_lit 819203), .var (nat_lit 819204)) := by show ¬ sI r _ < sI r _; rw [v3, v4]; exact h3
  by_cases h4 : a4 < 0
  · exact bad 4 (by omega) (sPa_cons.mpr ⟨by show sI r _ < sI r _; rw [v4, k0]; exact h4, by
      simp only [sPa_cons] at f0 ⊢
      exact ⟨f0.1, n1, n2, n3, sPa_nil⟩⟩)
  have n4 : sKd r (false, false, .var (nat_lit 819204), .natCast (nat_lit 0)) := by show ¬ sI r _ < sI r _; rw [v4, k0]; exact h4
  have F5 : sPa r [(false, false, .var (nat_lit 819200), .var (nat_lit 819201)), (false, false, .var (nat_lit 819201), .var (nat_lit 819202)), (false, false, .var (nat_lit 819202), .var (nat_lit 819203)), (false, false, .var (nat_lit 819203), .var (nat_lit 819204)), (false, false, .var (nat_lit 819204), .natCast (nat_lit 0))] := by
    simp only [sPa_cons] at f0 ⊢
    exact ⟨f0.1, n1, n2, n3, n4, sPa_nil⟩
  by_cases h5 : a0 < 1
  · exact bad 5 (by omega) (sPa_cons.mpr ⟨by show sI r _ < sI r _; rw [v0, k1]; exact h5, F5⟩)
  have n5 : sKd r (false, false, .var (nat_lit 819200), .natCast (nat_lit 1)) := by show ¬ sI r _ < sI r _; rw [v0, k1]; exact h5
  rw [Int32.lt_iff_toInt_lt] at h0 h1 h2 h3 h4 h5
  rw [z0] at h4
  rw [z1] at h5
  by_cases h6 : (5 : Int32) < a0
  · refine bad 6 (by omega) (sPa_cons.mpr ⟨lcF ?_, sPa_cons.mpr ⟨by show sI r _ < sI r _; rw [v0, k5]; exact h6, sPa_cons.mpr ⟨n5, F5⟩⟩⟩)
    rw [Int32.lt_iff_toInt_lt, z5] at h6
    omega
  have n6 : sKd r (false, false, .natCast (nat_lit 5), .var (nat_lit 819200)) := by show ¬ sI r _ < sI r _; rw [v0, k5]; exact h6
  rw [Int32.lt_iff_toInt_lt, z5] at h6
  have hsum : (a0 + a1 + a2 + a3 + a4).toInt = a0.toInt + a1.toInt + a2.toInt + a3.toInt + a4.toInt := by
    simp only [Int32.toInt_add, Int.bmod_def]
    omega
  by_cases h7 : (5 : Int32) < a0 + a1 + a2 + a3 + a4
  · refine bad 7 (by omega) (sPa_cons.mpr ⟨lcF ?_, sPa_cons.mpr ⟨by show sI r _ < sI r _; rw [sIL, k5]; exact h7, sPa_cons.mpr ⟨n6, sPa_cons.mpr ⟨n5, F5⟩⟩⟩⟩)
    rw [Int32.lt_iff_toInt_lt, z5, hsum] at h7
    exact h7
  rw [Int32.lt_iff_toInt_lt, z5, hsum] at h7
  obtain ⟨c, hc, hl⟩ : ∃ c, c < 18 ∧ lensOf c = [a0.toInt.toNat, a1.toInt.toNat, a2.toInt.toNat, a3.toInt.toNat, a4.toInt.toNat, 0] := by
    have t := allL_ok (allL_ok (allL_ok (allL_ok (allL_ok sh_tab a0.toInt.toNat (by omega)) a1.toInt.toNat (by omega)) a2.toInt.toNat (by omega)) a3.toInt.toNat (by omega)) a4.toInt.toNat (by omega)
    have hS : isSh a0.toInt.toNat a1.toInt.toNat a2.toInt.toNat a3.toInt.toNat a4.toInt.toNat = true := by
      unfold isSh
      simp only [Bool.and_eq_true]
      refine ⟨⟨⟨Nat.ble_eq_true_of_le (by omega), Nat.ble_eq_true_of_le (by omega)⟩, Nat.ble_eq_true_of_le (by omega), Nat.ble_eq_true_of_le (by omega)⟩, Nat.ble_eq_true_of_le (by show 1 ≤ _; omega), Nat.ble_eq_true_of_le ?_⟩
      show a0.toInt.toNat + a1.toInt.toNat + a2.toInt.toNat + a3.toInt.toNat + a4.toInt.toNat ≤ 5
      omega
    rw [hS, Bool.not_true, Bool.false_or] at t
    obtain ⟨k, k1, k2⟩ := anyN_ok t
    exact ⟨k, k1, eqL_ok (fun _ _ => Nat.eq_of_beq_eq_true) _ _ k2⟩
  have hargs : ∀ al : Nat → Nat, (asH c).map (sVal r al) = List.map Value.int [a0, a1, a2, a3, a4] := fun al => by
    unfold asH
    rw [hl]
    simp only [List.map_cons, List.map_nil, sVal, sI_c]
    show [Value.int (Int32.ofNat a0.toInt.toNat), Value.int (Int32.ofNat a1.toInt.toNat), Value.int (Int32.ofNat a2.toInt.toNat), Value.int (Int32.ofNat a3.toInt.toNat), Value.int (Int32.ofNat a4.toInt.toNat)] = _
    rw [← i32_toNat (x := a0) (by omega) (by omega), ← i32_toNat (x := a1) (by omega) (by omega), ← i32_toNat (x := a2) (by omega) (by omega), ← i32_toNat (x := a3) (by omega) (by omega), ← i32_toNat (x := a4) (by omega) (by omega)]
  obtain ⟨c0, hc0, hcc, hcm⟩ := id hI
  have m15 : r.1 (mP 1 5) = sI r (.natCast (nat_lit 0)) := by
    rw [k0]
    have := (hcc.2 1 (by omega) 5 _).1 (eqO_ok (lens_tab c0 hc0 5 (by omega)))
    have l5 : ∀ c, c < 18 → (lensOf c).getD 5 0 = 0 := by decide +kernel
    rw [l5 c0 hc0] at this
    exact this
  have hKX : ∀ i, i < 68 → KXs2 i = false → tX c i = tXv i := fun i hi hk => by
    have := allL_ok (allL_ok KXs2_t c hc) i hi
    rw [hk] at this
    exact eqC_ok _ _ this
  have hKM : ∀ i, i < 45 → KMs2 i = false → tM c i = tMv i := fun i hi hk => by
    have := allL_ok (allL_ok KMs2_t c hc) i hi
    rw [hk] at this
    exact eqC_ok _ _ this
  refine OpOk_2 l tXv_ok (tX_ok hc) tMv_ok (tM_ok hc) (cC_X r) (cC_M r) sPa_nil sPa_nil hKX hKM oX_nil (oM_cons m15 oM_nil) hargs (V := .int (Int32.ofNat (dOf c))) (fun al => by
    show Value.int (sI r (.natCast (dOf c))) = _
    rw [sI_c]) (Or.inl ⟨kd_88, _, rfl⟩) (q_shpX hc) (q_shpM hc) (fun x0 m0 pa pa2 x m hx0 hm0 hckX hckM hp hp2 hfx hfm g1 g2 => ?_)
  unfold ckHX at hckX
  unfold ckHM at hckM
  simp only [Bool.and_eq_true] at hckX hckM
  obtain ⟨x1, x2, x3, x4⟩ := hckX
  obtain ⟨y1, y2, y3, y4⟩ := hckM
  have hf : frJ chS2 x0 m0 x m = true := by
    unfold frJ
    rw [Bool.and_eq_true]
    exact ⟨x1, y1⟩
  refine ⟨c, hc, ⟨cC_eJx (tX_ok hc) g1, cC_eJm g2⟩, fun id hid => ?_⟩
  by_cases h9 : 9 ≤ id
  · exact Comp_high hx0 hm0 hfx hfm hf chS2_ok h9 hid (hcm id hid)
  by_cases h8 : id = 8
  · subst h8
    exact ⟨0, by omega, eqC0_x (show 44 < 68 by omega) (show 0 < 4096 by omega) x2, eqC0_m (show 17 < 4096 by omega) y2, fun i hi => absurd hi (by omega)⟩
  by_cases hid4 : id < 4
  · rw [Comp_R hid4]
    refine ⟨idO, idO_in c hc, ?_, fun i hi => ?_⟩
    · have := eqC0_x (r := r) (m := m) (show 34 < 68 by omega) (show id < 4096 by omega) (allL_ok x3 id hid4)
      rw [this]
      rfl
    · have := eqC0_m (r := r) (x := x) (show 6 * id + 1 + i < 4096 by omega) (allL_ok (allL_ok y3 id hid4) i hi)
      rw [show mP 6 (6 * id + 1) + i = mP 6 (6 * id + 1 + i) by unfold mP; omega, this]
      match i, hi with
      | 0, _ => rfl
      | 1, _ => rfl
      | 2, _ => rfl
      | 3, _ => rfl
      | 4, _ => rfl
  · obtain ⟨s, rfl⟩ : ∃ s, id = 4 + s := ⟨id - 4, by omega⟩
    have hs : s < 4 := by omega
    have hS := hcm (4 + s) (by omega)
    rw [Comp_S hs] at hS ⊢
    have xs := allL_ok x4 s hs
    have ys := allL_ok y4 s hs
    rw [Bool.or_eq_true, Bool.and_eq_true, Bool.and_eq_true] at xs
    rw [Bool.or_eq_true, Bool.and_eq_true, Bool.and_eq_true] at ys
    have eX : sI r (.var (Nat.add (nat_lit 147456) (Nat.mul (nat_lit 8192) s))) = r.1 (xP (36 + 2 * s) 0) := by
      rw [sI_v]
      exact congrArg r.1 (show 147456 + 8192 * s = xP (36 + 2 * s) 0 by unfold xP; omega)
    have eM : sI r (.var (Nat.add (nat_lit 311296) s)) = r.1 (xP (36 + 2 * s) 0) := by
      rw [sI_v, ← hS.1]
      exact congrArg r.1 (show 311296 + s = mP 7 s by unfold mP; omega)
    rcases xs with ⟨p1, p2⟩ | ⟨p1, p2⟩
    · have w1 := paY_ok hp p1
      rw [eX] at w1
      rcases ys with ⟨q1, q2⟩ | ⟨q1, q2⟩
      · have n0 := eqC0_x (r := r) (m := m) (show 36 + 2 * s < 68 by omega) (show 0 < 4096 by omega) p2
        have m0' := eqC0_m (r := r) (x := x) (show s < 4096 by omega) q2
        exact ⟨m0'.trans n0.symm, Or.inl n0⟩
      · have w2 := paN_ok hp2 q1
        rw [eM] at w2
        exact absurd w1 w2
    · have w1 := paN_ok hp p1
      rw [eX] at w1
      rcases ys with ⟨q1, q2⟩ | ⟨q1, q2⟩
      · have w2 := paY_ok hp2 q1
        rw [eM] at w2
        exact absurd w2 w1
      · rw [Bool.and_eq_true, Bool.and_eq_true] at p2
        obtain ⟨⟨c1, c2⟩, c3⟩ := mP89 s hs
        refine cS_copy ?_ ?_ ?_ ?_ (fun j hj => ?_) (fun j hj => ?_) hS
        · have := eqE0_x (r := r) (m := m) (show 36 + 2 * s < 68 by omega) (show 0 < 4096 by omega) p2.1.1
          rw [this, eX]
        · have := eqE0_x (r := r) (m := m) (show 36 + 2 * s < 68 by omega) (show 1 < 4096 by omega) p2.1.2
          rw [this, sI_v, xpZ_eq]
        · have := eqE0_m (r := r) (x := x) (show s < 4096 by omega) q2
          rw [this, eM, hS.1]
        · exact frJ_place tXv_ok tMv_ok vPl_v hx0 hm0 hfx hfm hf (show 4 + s < 12 by omega) c1 c2
        · have := eqE0_x (r := r) (m := m) (show 37 + 2 * s < 68 by omega) (show j < 4096 by omega) (allL_ok p2.2 j hj)
          rw [show xP (37 + 2 * s) 0 + j = xP (37 + 2 * s) j by unfold xP; omega, this, sI_v, xpN_eq]
        · exact frJ_place tXv_ok tMv_ok vPl_v hx0 hm0 hfx hfm hf (show 4 + s < 12 by omega) (c3 j hj).1 (c3 j hj).2
