/-! 98m: division; the greatest common divisor on both sides (by wip/whole/mk98m.py) -/
/-- division by what isn't 0; what is known of locals may be forgotten -/
def gLD (k : Nat) (At : gAt) : Prop :=
  (∀ (pc nx : Nat) (x y : Int64) (LV : List (Option Value)) (SV : List Value) (w : va_W), rowA k pc nx .ldiv → ¬ y = 0 → At nx LV (.long (x / y) :: SV) w → At pc LV (.long y :: .long x :: SV) w) ∧
  (∀ (pc nx : Nat) (x y : Int64) (LV : List (Option Value)) (SV : List Value) (w : va_W), rowA k pc nx .lrem → ¬ y = 0 → At nx LV (.long (x - x / y * y) :: SV) w → At pc LV (.long y :: .long x :: SV) w) ∧
  (∀ (pc : Nat) (LV LV2 : List (Option Value)) (SV : List Value) (w : va_W), LV2.length = LV.length → (∀ (i : Nat) (v : Value), LV2[i]? = some (some v) → LV[i]? = some (some v)) → At pc LV2 SV w → At pc LV SV w)
theorem g_rulesD {l : Launch} {D : va_G} {cy : Nat → ClassId} {al : Nat → Nat} {k d : Nat} {A : Nat → Prop} {p : Program} {e : Env} {R : Room} {s : State} {m : MethodId} {args : Array Value} {below : List Frame} {meth : Method} {c : Code} {Qc : Array Value → State → Outcome → State → Prop} {free : Addr → Prop} (X : sCtx MI k d D cy al A p R s m args meth c) :
    gLD k (fun pc LV SV w => ∀ (H : Heap) (locs : List Loc) (ls : Array Slot), va_P D vwCl w H → va_D A w → va_S A s.heap H locs → gLo ls (MI k).2.2.1 LV → W p l e R s m args below meth c H locs 0 0 (MQ below Qc args s 0 0 free) (F0 m pc ls SV)) := by
  obtain ⟨hx, hb, hml, hown, hts, hNw, hK, hst, hA, hfr, hlo, hret, hlocks⟩ := X
  obtain ⟨-, hR⟩ := sGood_ok k
  refine ⟨?_, ?_, ?_⟩
  · intro pc nx x y LV SV w hrow hy hk H locs ls hP hD hS hl
    obtain ⟨aux, hg⟩ := hrow
    have hrel := hR pc
    rw [hg] at hrel
    obtain ⟨hd, rfl⟩ : decode (MI k).2.1 pc = .ok (.ldiv, 1) ∧ nx = pc + 1 := hrel
    exact lv_ldiv hx hb hd hy (hk H locs ls hP hD hS hl)
  · intro pc nx x y LV SV w hrow hy hk H locs ls hP hD hS hl
    obtain ⟨aux, hg⟩ := hrow
    have hrel := hR pc
    rw [hg] at hrel
    obtain ⟨hd, rfl⟩ : decode (MI k).2.1 pc = .ok (.lrem, 1) ∧ nx = pc + 1 := hrel
    exact lv_lrem hx hb hd hy (hk H locs ls hP hD hS hl)
  · intro pc LV LV2 SV w hlen hsub hk H locs ls hP hD hS hl
    exact hk H locs ls hP hD hS ⟨hl.1, hl.2.1, fun i v h => hl.2.2.1 i v (hsub i v h), hlen.trans hl.2.2.2⟩
theorem gMet_ofD {D : va_G} {cy : Nat → ClassId} {al : Nat → Nat} {l : Launch} {d k : Nat} {w : va_W} {r : sE} {as : List sV} {L0 : sL} {G : Option Value → va_W → Prop} (hE : sEnt as (PG k).2.1 (fun L => eqL eqO L L0) = true)
    (h : ∀ At : gAt, gFC l D cy al k d G At → gLD k At → At 0 (L0.map (Option.map (sVal r al))) [] w) : gMet l D cy al d k w (as.map (sVal r al)) G := by
  intro sz
  obtain ⟨⟨c1, c2, c3, c4, c5, c6, c7, c8⟩, -⟩ := sGood_ok k
  refine Met.ofW (cc := (MI k).2.1) (maxL := (MI k).2.2.1) (ret := (MI k).2.2.2) c4 rfl ?_
  intro p e s m args below meth c s₁ B hml hv
  obtain ⟨rfl, hsz, hP, hK, hD0, hst, hNw⟩ := hv
  subst hsz
  have hts := atoms_spec (ws := Cond.code (MI k).1 (MI k).2.1 (MI k).2.2.1 (MI k).2.2.2 :: sTb) B.pre
  have hown : s.vm.findClass (MI k).1.cls = some m.cls := findClass_of_methodNamed B.named
  have hD := hD0.self (sz := s.heap.size)
  have hA : ∀ q : Nat, s.heap.size ≤ q → va_A w s.heap.size q := fun q h => Or.inr h
  obtain ⟨L, h1, h2, h3, h4⟩ := sEnt_ok (r := r) (al := al) _ _ _ hE
  have eL : L = L0 := eqL_ok (fun _ _ => eqO_ok) _ _ h1
  subst eL
  rw [c5] at h2 h3
  have hl := lv_entry (as.map (sVal r al)) (n := (MI k).2.2.1) h3
  rw [lg_entry_eq]
  generalize (lg_sl (as.map (sVal r al)) ++ List.replicate ((MI k).2.2.1 - (lg_sl (as.map (sVal r al))).length) Slot.unset).toArray = ls at hl ⊢
  have hlo : sLo r al ls (MI k).2.2.1 L := ⟨hl.1, hl.2.1, fun i v q => hl.2.2 (i, sVal r al v) (by have := h4 0 i v q; rwa [Nat.zero_add] at this), h2⟩
  have X : sCtx MI k d D cy al (va_A w s.heap.size) p (headSpec (Cond.code (MI k).1 (MI k).2.1 (MI k).2.2.1 (MI k).2.2.2 :: sTb) (sRm d)).room s m (as.map (sVal r al)).toArray meth c :=
    ⟨B.exec, B.bytes, hml, hown, fun w h => hts w (List.mem_cons_of_mem _ h), hNw, hK, hst, hA, Nat.le_refl _, Nat.le_refl _, B.returns, B.notSynchronized⟩
  refine h _ (g_rules (p := p) (e := e) (below := below) (Qc := gQc D cy (va_A w s.heap.size) G) (free := va_A w s.heap.size) X ?_ (fun q h => h)) (g_rulesD X) s.heap [] ls hP hD va_S.rf (gLo_iff.mpr hlo)
  intro v w2 H1 locs1 q1 q2 q3 q4 t ht hw
  exact ⟨⟨v, w2, q1, rfl, by rw [ht]; exact q2, va_K.moved hw.alike hK, q3⟩, q4.F ht⟩
/-- variables of longs from 819290 on, by a row; no memory -/
def eL (l : List Int64) : sE := (fun _ => 0, fun v => l.getD (v - 819290) 0)
theorem eL_v {l : List Int64} (i : Nat) : sJ (eL l) (.var (819290 + i)) = l.getD i 0 := by
  simp only [sJ, sD_v, eL, Nat.add_sub_cancel_left]
theorem lgE {x : Int64} : lg_cmp x (Int64.ofNat 0) = Int32.ofNat 0 ↔ x = 0 := by
  unfold lg_cmp
  rw [show Int64.ofNat 0 = 0 from rfl]
  constructor
  · intro h
    split at h
    · exact absurd h (by decide)
    · split at h
      · assumption
      · exact absurd h (by decide)
  · rintro rfl
    decide
theorem lgN {x : Int64} : lg_cmp x (Int64.ofNat 0) < Int32.ofNat 0 ↔ x < 0 := by
  unfold lg_cmp
  rw [show Int64.ofNat 0 = 0 from rfl]
  split
  · rename_i h
    refine ⟨fun q => absurd q (by decide), fun q => ?_⟩
    rw [gt_iff_lt, Int64.lt_iff_toInt_lt] at h
    rw [Int64.lt_iff_toInt_lt] at q
    omega
  · rename_i h
    split
    · rename_i h2
      subst h2
      exact ⟨fun q => absurd q (by decide), fun q => absurd q (by decide)⟩
    · rename_i h2
      refine ⟨fun _ => ?_, fun _ => by decide⟩
      rw [gt_iff_lt, Int64.lt_iff_toInt_lt] at h
      rw [← Int64.toInt_inj] at h2
      rw [Int64.lt_iff_toInt_lt]
      omega
theorem sJ_abs {r : sE} {x : sX} : sJ r (.pow (.neg x) (nat_lit 22)) = if 0 < sJ r x then sJ r x else -sJ r x := by
  show (sD r (.pow (.neg x) 22)).2 = _
  rw [sD_u]
  rfl
theorem sJ_ng {r : sE} {x : sX} : sJ r (.pow (.neg x) (nat_lit 20)) = -sJ r x := by
  show (sD r (.pow (.neg x) 20)).2 = _
  rw [sD_u]
  rfl
theorem sI_lc {r : sE} {x y : sX} : sI r (.pow (.mul x y) (nat_lit 10)) = lg_cmp (sJ r x) (sJ r y) := by
  show (sD r (.pow (.mul x y) 10)).1 = _
  rw [sD_b]
  rfl
theorem sJ_c {r : sE} {k : Nat} : sJ r (.natCast k) = Int64.ofNat k := by simp only [sJ, sD_c]
theorem zJ {z : Int} (h : z.natAbs < 9223372036854775808) : (Int64.ofInt z).toInt = z := Int64.toInt_ofInt_of_le (by omega) (by omega)
theorem zJ_0 {z : Int} (h : z.natAbs < 9223372036854775808) : Int64.ofInt z = 0 ↔ z = 0 := by
  rw [← Int64.toInt_inj, zJ h]
  rfl
theorem zJ_n {z : Int} (h : z.natAbs < 9223372036854775808) : Int64.ofInt z < 0 ↔ z < 0 := by
  rw [Int64.lt_iff_toInt_lt, zJ h]
  rfl
theorem zJ_p {z : Int} (h : z.natAbs < 9223372036854775808) : 0 < Int64.ofInt z ↔ 0 < z := by
  rw [Int64.lt_iff_toInt_lt, zJ h]
  rfl
theorem zJ_a {z : Int} (hz : 0 ≤ z) : Int64.ofInt z = Int64.ofNat z.natAbs := by
  rw [← Int64.ofInt_eq_ofNat]
  congr 1
  omega
theorem zJ_b {z : Int} (hz : z ≤ 0) : -Int64.ofInt z = Int64.ofNat z.natAbs := by
  rw [← Int64.ofInt_eq_ofNat, ← Int64.ofInt_neg]
  congr 1
  omega
theorem j_rem {m n : Nat} (hm : m < 9223372036854775808) (hn : n < 9223372036854775808) : Int64.ofNat m - Int64.ofNat m / Int64.ofNat n * Int64.ofNat n = Int64.ofNat (m % n) := by
  rw [← Int64.ofNat_div hm hn, ← Int64.ofNat_mul, ← Int64.ofNat_sub _ _ (Nat.div_mul_le_self m n)]
  congr 1
  have := Nat.div_add_mod m n
  rw [Nat.mul_comm] at this
  omega
theorem gcd_half {m n : Nat} (h : n < m) (h0 : 0 < n) : 2 * (m % n) < m := by
  have h1 := Nat.mod_lt m h0
  by_cases h2 : 2 * n ≤ m
  · omega
  · rw [Nat.mod_eq_sub_mod (by omega), Nat.mod_eq_of_lt (by omega)]
    omega
theorem gcd_next (m n : Nat) : Nat.gcd n (m % n) = Nat.gcd m n := by
  rw [Nat.gcd_comm m n, Nat.gcd_rec n m, Nat.gcd_comm]
noncomputable def LGx (i : Nat) : sL := [some (.inr (.inl (.var (nat_lit 819290)))), none, some (.inr (.inl (.var (nat_lit 819291)))), none, some (.inr (.inl (.var (nat_lit 819292)))), none, some (.inr (.inl (.var (nat_lit 819293)))), none, some (.inl (.natCast i)), none, none]
noncomputable def LGm : sL := [some (.inr (.inl (.var (nat_lit 819290)))), none, some (.inr (.inl (.var (nat_lit 819291)))), none, some (.inr (.inl (.var (nat_lit 819292)))), none, some (.inr (.inl (.var (nat_lit 819293)))), none, none, none]
def LGv (a b x y : Int64) (i : Nat) : List (Option Value) := [some (.long a), none, some (.long b), none, some (.long x), none, some (.long y), none, some (.int (Int32.ofNat i)), none, none]
def LGw (a b x y : Int64) : List (Option Value) := [some (.long a), none, some (.long b), none, some (.long x), none, some (.long y), none, none, none]
theorem q_gA : allL 200 (fun i => sx PG (nat_lit 100) (nat_lit 5) (PG (nat_lit 3)) (fun pc => Nat.beq pc (nat_lit 34)) (fun pc L st _ m => Bool.and (eqL eqC m []) (kAt (nat_lit 34) (LGx i) [.inr (.inl (.var (nat_lit 819293))), .inr (.inl (.var (nat_lit 819292)))] pc L st)) (fun _ _ m => Bool.and (eqL eqC m []) false) (nat_lit 15) (LGx i) [] [(true, false, (.pow (.mul (.var (nat_lit 819293)) (.natCast (nat_lit 0))) (nat_lit 10)), (.natCast (nat_lit 0)))] []) = true := by decide +kernel
theorem q_gB : allL 200 (fun i => sx PG (nat_lit 100) (nat_lit 5) (PG (nat_lit 3)) (fun pc => Nat.beq pc (nat_lit 15)) (fun pc L st _ m => Bool.and (eqL eqC m []) (kAt (nat_lit 15) [some (.inr (.inl (.var (nat_lit 819290)))), none, some (.inr (.inl (.var (nat_lit 819291)))), none, some (.inr (.inl (.var (nat_lit 819293)))), none, some (.inr (.inl (.var (nat_lit 819294)))), none, some (.inl (.natCast (Nat.succ i))), some (.inr (.inl (.var (nat_lit 819294)))), none] [] pc L st)) (fun _ _ m => Bool.and (eqL eqC m []) false) (nat_lit 35) (LGx i) [.inr (.inl (.var (nat_lit 819294)))] [] []) = true := by decide +kernel
theorem q_gR : allL 200 (fun i => sx PG (nat_lit 100) (nat_lit 5) (PG (nat_lit 3)) (fun _ => false) (fun _ _ _ _ m => Bool.and (eqL eqC m []) false) (fun v _ m => Bool.and (eqL eqC m []) (eqO v (some (.inr (.inl (.var (nat_lit 819292))))))) (nat_lit 15) (LGx i) [] [(true, true, (.pow (.mul (.var (nat_lit 819293)) (.natCast (nat_lit 0))) (nat_lit 10)), (.natCast (nat_lit 0)))] []) = true := by decide +kernel
theorem q_gE : sEnt [.inr (.inl (.var (nat_lit 819290))), .inr (.inl (.var (nat_lit 819291)))] (PG (nat_lit 3)).2.1 (fun L => eqL eqO L [some (.inr (.inl (.var (nat_lit 819290)))), none, some (.inr (.inl (.var (nat_lit 819291)))), none, none, none, none, none, none, none, none]) = true := by decide +kernel
theorem q_g0 : sx PG (nat_lit 100) (nat_lit 5) (PG (nat_lit 3)) (fun pc => Nat.beq pc (nat_lit 15)) (fun pc L st _ m => Bool.and (eqL eqC m []) (kAt (nat_lit 15) [some (.inr (.inl (.var (nat_lit 819290)))), none, some (.inr (.inl (.var (nat_lit 819291)))), none, some (.inr (.inl (.pow (.neg (.var (nat_lit 819290))) (nat_lit 22)))), none, some (.inr (.inl (.pow (.neg (.var (nat_lit 819291))) (nat_lit 22)))), none, some (.inl (.natCast (nat_lit 0))), none, none] [] pc L st)) (fun _ _ m => Bool.and (eqL eqC m []) false) (nat_lit 0) [some (.inr (.inl (.var (nat_lit 819290)))), none, some (.inr (.inl (.var (nat_lit 819291)))), none, none, none, none, none, none, none, none] [] [] [] = true := by decide +kernel
theorem q_hA : sx PG (nat_lit 100) (nat_lit 5) (PG (nat_lit 186)) (fun pc => Nat.beq pc (nat_lit 39)) (fun pc L st _ m => Bool.and (eqL eqC m []) (kAt (nat_lit 39) LGm [.inr (.inl (.var (nat_lit 819293))), .inr (.inl (.var (nat_lit 819292)))] pc L st)) (fun _ _ m => Bool.and (eqL eqC m []) false) (nat_lit 28) LGm [] [(true, false, (.pow (.mul (.var (nat_lit 819293)) (.natCast (nat_lit 0))) (nat_lit 10)), (.natCast (nat_lit 0)))] [] = true := by decide +kernel
theorem q_hB : sx PG (nat_lit 100) (nat_lit 5) (PG (nat_lit 186)) (fun pc => Nat.beq pc (nat_lit 28)) (fun pc L st _ m => Bool.and (eqL eqC m []) (kAt (nat_lit 28) [some (.inr (.inl (.var (nat_lit 819290)))), none, some (.inr (.inl (.var (nat_lit 819291)))), none, some (.inr (.inl (.var (nat_lit 819293)))), none, some (.inr (.inl (.var (nat_lit 819294)))), none, some (.inr (.inl (.var (nat_lit 819294)))), none] [] pc L st)) (fun _ _ m => Bool.and (eqL eqC m []) false) (nat_lit 40) LGm [.inr (.inl (.var (nat_lit 819294)))] [] [] = true := by decide +kernel
theorem q_hR : sx PG (nat_lit 100) (nat_lit 5) (PG (nat_lit 186)) (fun _ => false) (fun _ _ _ _ m => Bool.and (eqL eqC m []) false) (fun v _ m => Bool.and (eqL eqC m []) (eqO v (some (.inr (.inl (.var (nat_lit 819292))))))) (nat_lit 28) LGm [] [(true, true, (.pow (.mul (.var (nat_lit 819293)) (.natCast (nat_lit 0))) (nat_lit 10)), (.natCast (nat_lit 0)))] [] = true := by decide +kernel
theorem q_hE : sEnt [.inr (.inl (.var (nat_lit 819290))), .inr (.inl (.var (nat_lit 819291)))] (PG (nat_lit 186)).2.1 (fun L => eqL eqO L [some (.inr (.inl (.var (nat_lit 819290)))), none, some (.inr (.inl (.var (nat_lit 819291)))), none, none, none, none, none, none, none]) = true := by decide +kernel
noncomputable def sgX (b : Bool) (u : Nat) : sX := Bool.rec (motive := fun _ => sX) (.var u) (.pow (.neg (.var u)) (nat_lit 20)) b
noncomputable def hQ0 (p q : Bool) : Bool := sx PG (nat_lit 100) (nat_lit 5) (PG (nat_lit 186)) (fun pc => Nat.beq pc (nat_lit 28)) (fun pc L st _ m => Bool.and (eqL eqC m []) (kAt (nat_lit 28) [some (.inr (.inl (.var (nat_lit 819290)))), none, some (.inr (.inl (.var (nat_lit 819291)))), none, some (.inr (.inl (sgX p (nat_lit 819290)))), none, some (.inr (.inl (sgX q (nat_lit 819291)))), none, none, none] [] pc L st)) (fun _ _ m => Bool.and (eqL eqC m []) false) (nat_lit 0) [some (.inr (.inl (.var (nat_lit 819290)))), none, some (.inr (.inl (.var (nat_lit 819291)))), none, none, none, none, none, none, none] [] [(false, p, (.pow (.mul (.var (nat_lit 819290)) (.natCast (nat_lit 0))) (nat_lit 10)), (.natCast (nat_lit 0))), (false, q, (.pow (.mul (.var (nat_lit 819291)) (.natCast (nat_lit 0))) (nat_lit 10)), (.natCast (nat_lit 0)))] []
theorem q_h0 : ∀ p q : Bool, hQ0 p q = true := by decide +kernel
theorem LGx_eq {a b x y z : Int64} {al : Nat → Nat} {i : Nat} : (LGx i).map (Option.map (sVal (eL [a, b, x, y, z]) al)) = LGv a b x y i := by
  simp only [LGx, LGv, List.map_cons, List.map_nil, Option.map_some, Option.map_none, sVal, sI_c]
  rw [show sJ (eL [a, b, x, y, z]) (.var (nat_lit 819290)) = a from eL_v 0, show sJ (eL [a, b, x, y, z]) (.var (nat_lit 819291)) = b from eL_v 1, show sJ (eL [a, b, x, y, z]) (.var (nat_lit 819292)) = x from eL_v 2, show sJ (eL [a, b, x, y, z]) (.var (nat_lit 819293)) = y from eL_v 3]
theorem LGm_eq {a b x y z : Int64} {al : Nat → Nat} : LGm.map (Option.map (sVal (eL [a, b, x, y, z]) al)) = LGw a b x y := by
  simp only [LGm, LGw, List.map_cons, List.map_nil, Option.map_some, Option.map_none, sVal]
  rw [show sJ (eL [a, b, x, y, z]) (.var (nat_lit 819290)) = a from eL_v 0, show sJ (eL [a, b, x, y, z]) (.var (nat_lit 819291)) = b from eL_v 1, show sJ (eL [a, b, x, y, z]) (.var (nat_lit 819292)) = x from eL_v 2, show sJ (eL [a, b, x, y, z]) (.var (nat_lit 819293)) = y from eL_v 3]
theorem s_yx {a b x y z : Int64} {al : Nat → Nat} : List.map (sVal (eL [a, b, x, y, z]) al) [.inr (.inl (.var (nat_lit 819293))), .inr (.inl (.var (nat_lit 819292)))] = [.long y, .long x] := by
  simp only [List.map_cons, List.map_nil, sVal]
  rw [show sJ (eL [a, b, x, y, z]) (.var (nat_lit 819293)) = y from eL_v 3, show sJ (eL [a, b, x, y, z]) (.var (nat_lit 819292)) = x from eL_v 2]
theorem s_z {a b x y z : Int64} {al : Nat → Nat} : List.map (sVal (eL [a, b, x, y, z]) al) [.inr (.inl (.var (nat_lit 819294)))] = [.long z] := by
  simp only [List.map_cons, List.map_nil, sVal]
  rw [show sJ (eL [a, b, x, y, z]) (.var (nat_lit 819294)) = z from eL_v 4]
theorem fY_ok {a b x y z : Int64} {p : Bool} (h : p = true ↔ y = 0) : sPa (eL [a, b, x, y, z]) [(true, p, (.pow (.mul (.var (nat_lit 819293)) (.natCast (nat_lit 0))) (nat_lit 10)), (.natCast (nat_lit 0)))] := by
  intro q hq
  rw [List.mem_singleton] at hq
  subst hq
  have e : sI (eL [a, b, x, y, z]) (.pow (.mul (.var (nat_lit 819293)) (.natCast (nat_lit 0))) (nat_lit 10)) = lg_cmp y (Int64.ofNat 0) := by
    show (sD _ _).1 = _
    rw [sD_b]
    show lg_cmp (sJ _ (.var (819290 + 3))) (sJ _ (.natCast 0)) = _
    rw [eL_v]
    simp only [sJ, sD_c]
    rfl
  cases p with
  | true =>
    refine sKd_t.mpr ?_
    show sI _ _ = sI _ _
    rw [e, sI_c]
    exact lgE.mpr (h.mp rfl)
  | false =>
    refine sKd_f.mpr ?_
    show ¬ sI _ _ = sI _ _
    rw [e, sI_c]
    exact fun q => nomatch h.mpr (lgE.mp q)
/-- the class' gcd -/
theorem c_gcdX (l : Launch) {D : va_G} {cy : Nat → ClassId} {al : Nat → Nat} {w : va_W} {d : Nat} {A B : Int} (hd : 5 ≤ d) (hA : A.natAbs < 9223372036854775808) (hB : B.natAbs < 9223372036854775808) : gMet l D cy al d 3 w [.long (Int64.ofInt A), .long (Int64.ofInt B)] (fun v w2 => v = some (.long (Int64.ofNat (Nat.gcd A.natAbs B.natAbs))) ∧ w2 = w) := by
  refine gMet_up hd ?_
  generalize ea : Int64.ofInt A = a
  generalize eb : Int64.ofInt B = b
  have key := gMet_ofD (l := l) (D := D) (cy := cy) (al := al) (d := 5) (k := 3) (w := w) (r := eL [a, b, 0, 0, 0]) (G := fun v w2 => v = some (.long (Int64.ofNat (Nat.gcd A.natAbs B.natAbs))) ∧ w2 = w) q_gE (fun At hFC hLD => ?_)
  · have e1 : List.map (sVal (eL [a, b, 0, 0, 0]) al) [.inr (.inl (.var (nat_lit 819290))), .inr (.inl (.var (nat_lit 819291)))] = [.long a, .long b] := by
      simp only [List.map_cons, List.map_nil, sVal]
      rw [show sJ (eL [a, b, 0, 0, 0]) (.var (nat_lit 819290)) = a from eL_v 0, show sJ (eL [a, b, 0, 0, 0]) (.var (nat_lit 819291)) = b from eL_v 1]
    rw [e1] at key
    exact key
  have ret : ∀ (m i : Nat), i < 200 → m = Nat.gcd A.natAbs B.natAbs → At 15 (LGv a b (Int64.ofNat m) (Int64.ofNat 0) i) [] w := fun m i hi hm => by
    have g := g_pure hFC (al := al) (r := eL [a, b, Int64.ofNat m, Int64.ofNat 0, 0]) (w := w) (fY_ok (p := true) ⟨fun _ => rfl, fun _ => rfl⟩) (allL_ok q_gR i hi) (fun pc L st hk => nomatch hk) (fun v hk => ?_)
    · rw [LGx_eq] at g
      exact g
    rw [eqO_ok hk]
    refine ⟨?_, rfl⟩
    show some (Value.long (sJ _ (.var (819290 + 2)))) = _
    rw [eL_v, ← hm]
    rfl
  have turn : ∀ (m n i : Nat), i < 200 → m < 9223372036854775808 → n < 9223372036854775808 → 0 < n → At 15 (LGv a b (Int64.ofNat n) (Int64.ofNat (m % n)) (i + 1)) [] w → At 15 (LGv a b (Int64.ofNat m) (Int64.ofNat n) i) [] w := fun m n i hi hm hn h0 hk => by
    have hn0 : ¬ Int64.ofNat n = 0 := fun q => by
      have := (zJ_0 (z := (n : Int)) (by omega)).mp (by rw [Int64.ofInt_eq_ofNat]; exact q)
      omega
    have g := g_pure hFC (al := al) (r := eL [a, b, Int64.ofNat m, Int64.ofNat n, 0]) (w := w) (fY_ok (p := false) ⟨fun q => (nomatch q), fun q => absurd q hn0⟩) (allL_ok q_gA i hi) (fun pc L st hk1 => ?_) (fun v hk1 => nomatch hk1)
    · rw [LGx_eq] at g
      exact g
    obtain ⟨rfl, rfl, rfl⟩ := kAt_ok hk1
    rw [LGx_eq, s_yx]
    refine hLD.2.1 34 35 _ _ _ _ _ ⟨_, rfl⟩ hn0 ?_
    rw [j_rem hm hn]
    have g2 := g_pure hFC (al := al) (r := eL [a, b, Int64.ofNat m, Int64.ofNat n, Int64.ofNat (m % n)]) (w := w) sPa_nil (allL_ok q_gB i hi) (fun pc L st hk1 => ?_) (fun v hk1 => nomatch hk1)
    · rw [LGx_eq, s_z] at g2
      exact g2
    obtain ⟨rfl, rfl, rfl⟩ := kAt_ok hk1
    refine hLD.2.2 15 _ (LGv a b (Int64.ofNat n) (Int64.ofNat (m % n)) (i + 1)) _ _ rfl (fun j v hv => ?_) hk
    simp only [List.map_cons, List.map_nil, Option.map_some, Option.map_none, sVal, sI_c]
    rw [show sJ (eL [a, b, Int64.ofNat m, Int64.ofNat n, Int64.ofNat (m % n)]) (.var (nat_lit 819290)) = a from eL_v 0, show sJ (eL [a, b, Int64.ofNat m, Int64.ofNat n, Int64.ofNat (m % n)]) (.var (nat_lit 819291)) = b from eL_v 1, show sJ (eL [a, b, Int64.ofNat m, Int64.ofNat n, Int64.ofNat (m % n)]) (.var (nat_lit 819293)) = Int64.ofNat n from eL_v 3, show sJ (eL [a, b, Int64.ofNat m, Int64.ofNat n, Int64.ofNat (m % n)]) (.var (nat_lit 819294)) = Int64.ofNat (m % n) from eL_v 4]
    unfold LGv at hv
    rcases j with _ | _ | _ | _ | _ | _ | _ | _ | _ | _ | _ | j
    all_goals first | exact hv | exact nomatch hv
  have loop : ∀ (k m n i : Nat), n < m → m * n < 2 ^ k → i + k ≤ 199 → m < 9223372036854775808 → Nat.gcd m n = Nat.gcd A.natAbs B.natAbs → At 15 (LGv a b (Int64.ofNat m) (Int64.ofNat n) i) [] w := by
    intro k
    induction k with
    | zero =>
      intro m n i h1 h2 h3 h4 h5
      have h0 : n = 0 := by
        cases n with
        | zero => rfl
        | succ n =>
          have : 1 * 1 ≤ m * (n + 1) := Nat.mul_le_mul (by omega) (by omega)
          omega
      subst h0
      exact ret m i (by omega) (by rw [← h5, Nat.gcd_zero_right])
    | succ k ih =>
      intro m n i h1 h2 h3 h4 h5
      cases Nat.eq_zero_or_pos n with
      | inl h0 =>
        subst h0
        exact ret m i (by omega) (by rw [← h5, Nat.gcd_zero_right])
      | inr h0 =>
        refine turn m n i (by omega) h4 (by omega) h0 (ih n (m % n) (i + 1) (Nat.mod_lt _ h0) ?_ (by omega) (by omega) (by rw [gcd_next]; exact h5))
        have h6 := gcd_half h1 h0
        have h7 : n * (2 * (m % n)) ≤ n * m := Nat.mul_le_mul_left n (by omega)
        rw [Nat.mul_comm n m] at h7
        rw [Nat.pow_succ] at h2
        have h8 : n * (2 * (m % n)) = 2 * (n * (m % n)) := by rw [Nat.mul_left_comm]
        omega
  have g0 := g_pure hFC (al := al) (r := eL [a, b, 0, 0, 0]) (w := w) sPa_nil q_g0 (fun pc L st hk1 => ?_) (fun v hk1 => nomatch hk1)
  · exact g0
  obtain ⟨rfl, rfl, rfl⟩ := kAt_ok hk1
  have ab : ∀ (u : Nat) (z : Int), z.natAbs < 9223372036854775808 → sJ (eL [a, b, 0, 0, 0]) (.var u) = Int64.ofInt z → sJ (eL [a, b, 0, 0, 0]) (.pow (.neg (.var u)) (nat_lit 22)) = Int64.ofNat z.natAbs := fun u z hz hu => by
    rw [sJ_abs, hu]
    split
    · rename_i h
      rw [zJ_p hz] at h
      exact zJ_a (by omega)
    · rename_i h
      rw [zJ_p hz] at h
      exact zJ_b (by omega)
  have st : At 15 (LGv a b (Int64.ofNat A.natAbs) (Int64.ofNat B.natAbs) 0) [] w := by
    cases Nat.eq_zero_or_pos B.natAbs with
    | inl h0 =>
      rw [h0]
      exact ret _ 0 (by omega) (by rw [h0, Nat.gcd_zero_right])
    | inr h0 =>
      refine turn _ _ 0 (by omega) hA hB h0 (loop 126 _ _ 1 (Nat.mod_lt _ h0) ?_ (by omega) hB (gcd_next _ _))
      have h1 := Nat.mod_lt A.natAbs h0
      have h2 : B.natAbs * (A.natAbs % B.natAbs) < 9223372036854775808 * 9223372036854775808 := Nat.mul_lt_mul'' hB (by omega)
      exact h2
  simp only [List.map_cons, List.map_nil, Option.map_some, Option.map_none, sVal, sI_c]
  rw [ab _ A hA (by rw [ea]; exact eL_v 0), ab _ B hB (by rw [eb]; exact eL_v 1), show sJ (eL [a, b, 0, 0, 0]) (.var (nat_lit 819290)) = a from eL_v 0, show sJ (eL [a, b, 0, 0, 0]) (.var (nat_lit 819291)) = b from eL_v 1]
  exact st
/-- the model's gcd -/
theorem c_gcdM (l : Launch) {D : va_G} {cy : Nat → ClassId} {al : Nat → Nat} {w : va_W} {d : Nat} {A B : Int} (hd : 5 ≤ d) (hA : A.natAbs < 9223372036854775808) (hB : B.natAbs < 9223372036854775808) : gMet l D cy al d 186 w [.long (Int64.ofInt A), .long (Int64.ofInt B)] (fun v w2 => v = some (.long (Int64.ofNat (Nat.gcd A.natAbs B.natAbs))) ∧ w2 = w) := by
  refine gMet_up hd ?_
  generalize ea : Int64.ofInt A = a
  generalize eb : Int64.ofInt B = b
  have key := gMet_ofD (l := l) (D := D) (cy := cy) (al := al) (d := 5) (k := 186) (w := w) (r := eL [a, b, 0, 0, 0]) (G := fun v w2 => v = some (.long (Int64.ofNat (Nat.gcd A.natAbs B.natAbs))) ∧ w2 = w) q_hE (fun At hFC hLD => ?_)
  · have e1 : List.map (sVal (eL [a, b, 0, 0, 0]) al) [.inr (.inl (.var (nat_lit 819290))), .inr (.inl (.var (nat_lit 819291)))] = [.long a, .long b] := by
      simp only [List.map_cons, List.map_nil, sVal]
      rw [show sJ (eL [a, b, 0, 0, 0]) (.var (nat_lit 819290)) = a from eL_v 0, show sJ (eL [a, b, 0, 0, 0]) (.var (nat_lit 819291)) = b from eL_v 1]
    rw [e1] at key
    exact key
  have loop : ∀ (n m : Nat), m < 9223372036854775808 → n < 9223372036854775808 → Nat.gcd m n = Nat.gcd A.natAbs B.natAbs → At 28 (LGw a b (Int64.ofNat m) (Int64.ofNat n)) [] w := by
    intro n
    induction n using Nat.strongRecOn with
    | _ n ih =>
      intro m hm hn h5
      cases Nat.eq_zero_or_pos n with
      | inl h0 =>
        subst h0
        have g := g_pure hFC (al := al) (r := eL [a, b, Int64.ofNat m, Int64.ofNat 0, 0]) (w := w) (fY_ok (p := true) ⟨fun _ => rfl, fun _ => rfl⟩) q_hR (fun pc L st hk => nomatch hk) (fun v hk => ?_)
        · rw [LGm_eq] at g
          exact g
        rw [eqO_ok hk]
        refine ⟨?_, rfl⟩
        show some (Value.long (sJ _ (.var (819290 + 2)))) = _
        rw [eL_v, ← h5, Nat.gcd_zero_right]
        rfl
      | inr h0 =>
        have hn0 : ¬ Int64.ofNat n = 0 := fun q => by
          have := (zJ_0 (z := (n : Int)) (by omega)).mp (by rw [Int64.ofInt_eq_ofNat]; exact q)
          omega
        have g := g_pure hFC (al := al) (r := eL [a, b, Int64.ofNat m, Int64.ofNat n, 0]) (w := w) (fY_ok (p := false) ⟨fun q => (nomatch q), fun q => absurd q hn0⟩) q_hA (fun pc L st hk1 => ?_) (fun v hk1 => nomatch hk1)
        · rw [LGm_eq] at g
          exact g
        obtain ⟨rfl, rfl, rfl⟩ := kAt_ok hk1
        rw [LGm_eq, s_yx]
        refine hLD.2.1 39 40 _ _ _ _ _ ⟨_, rfl⟩ hn0 ?_
        rw [j_rem hm hn]
        have g2 := g_pure hFC (al := al) (r := eL [a, b, Int64.ofNat m, Int64.ofNat n, Int64.ofNat (m % n)]) (w := w) sPa_nil q_hB (fun pc L st hk1 => ?_) (fun v hk1 => nomatch hk1)
        · rw [LGm_eq, s_z] at g2
          exact g2
        obtain ⟨rfl, rfl, rfl⟩ := kAt_ok hk1
        refine hLD.2.2 28 _ (LGw a b (Int64.ofNat n) (Int64.ofNat (m % n))) _ _ rfl (fun j v hv => ?_) (ih (m % n) (Nat.mod_lt _ h0) n hn (by have := Nat.mod_lt m h0; omega) (by rw [gcd_next]; exact h5))
        simp only [List.map_cons, List.map_nil, Option.map_some, Option.map_none, sVal]
        rw [show sJ (eL [a, b, Int64.ofNat m, Int64.ofNat n, Int64.ofNat (m % n)]) (.var (nat_lit 819290)) = a from eL_v 0, show sJ (eL [a, b, Int64.ofNat m, Int64.ofNat n, Int64.ofNat (m % n)]) (.var (nat_lit 819291)) = b from eL_v 1, show sJ (eL [a, b, Int64.ofNat m, Int64.ofNat n, Int64.ofNat (m % n)]) (.var (nat_lit 819293)) = Int64.ofNat n from eL_v 3, show sJ (eL [a, b, Int64.ofNat m, Int64.ofNat n, Int64.ofNat (m % n)]) (.var (nat_lit 819294)) = Int64.ofNat (m % n) from eL_v 4]
        unfold LGw at hv
        rcases j with _ | _ | _ | _ | _ | _ | _ | _ | _ | _ | j
        all_goals first | exact hv | exact nomatch hv
  have fact : ∀ (u : Nat) (z : Int) (p : Bool), z.natAbs < 9223372036854775808 → sJ (eL [a, b, 0, 0, 0]) (.var u) = Int64.ofInt z → (p = true ↔ z < 0) → sKd (eL [a, b, 0, 0, 0]) (false, p, (.pow (.mul (.var u) (.natCast (nat_lit 0))) (nat_lit 10)), (.natCast (nat_lit 0))) := fun u z p hz hu hp => by
    have e : sI (eL [a, b, 0, 0, 0]) (.pow (.mul (.var u) (.natCast (nat_lit 0))) (nat_lit 10)) = lg_cmp (Int64.ofInt z) (Int64.ofNat 0) := by
      rw [sI_lc, hu, sJ_c]
    cases p with
    | true =>
      refine sKd_t.mpr ?_
      show sI _ _ < sI _ _
      rw [e, sI_c]
      exact lgN.mpr ((zJ_n hz).mpr (hp.mp rfl))
    | false =>
      refine sKd_f.mpr ?_
      show ¬ sI _ _ < sI _ _
      rw [e, sI_c]
      exact fun q => nomatch hp.mpr ((zJ_n hz).mp (lgN.mp q))
  have va : sJ (eL [a, b, 0, 0, 0]) (.var (nat_lit 819290)) = Int64.ofInt A := by rw [ea]; exact eL_v 0
  have vb : sJ (eL [a, b, 0, 0, 0]) (.var (nat_lit 819291)) = Int64.ofInt B := by rw [eb]; exact eL_v 1
  have sg : ∀ (u : Nat) (z : Int) (p : Bool), (p = true ↔ z < 0) → sJ (eL [a, b, 0, 0, 0]) (.var u) = Int64.ofInt z → sJ (eL [a, b, 0, 0, 0]) (sgX p u) = Int64.ofNat z.natAbs := fun u z p hp hu => by
    cases p with
    | true =>
      show sJ _ (.pow (.neg (.var u)) (nat_lit 20)) = _
      rw [sJ_ng, hu]
      have := hp.mp rfl
      exact zJ_b (by omega)
    | false =>
      show sJ _ (.var u) = _
      rw [hu]
      exact zJ_a (by
        cases Int.lt_or_le z 0 with
        | inl h => exact nomatch hp.mpr h
        | inr h => exact h)
  have dec : ∀ z : Int, (decide (z < 0) = true ↔ z < 0) := fun z => decide_eq_true_iff
  have g0 := g_pure hFC (al := al) (r := eL [a, b, 0, 0, 0]) (w := w) (pa := _) (fun q hq => ?_) (q_h0 (decide (A < 0)) (decide (B < 0))) (fun pc L st hk1 => ?_) (fun v hk1 => nomatch hk1)
  · exact g0
  · rcases List.mem_cons.mp hq with rfl | hq
    · exact fact _ A _ hA va (dec A)
    · rw [List.mem_singleton] at hq
      subst hq
      exact fact _ B _ hB vb (dec B)
  obtain ⟨rfl, rfl, rfl⟩ := kAt_ok hk1
  simp only [List.map_cons, List.map_nil, Option.map_some, Option.map_none, sVal]
  rw [sg _ A _ (dec A) va, sg _ B _ (dec B) vb, show sJ (eL [a, b, 0, 0, 0]) (.var (nat_lit 819290)) = a from eL_v 0, show sJ (eL [a, b, 0, 0, 0]) (.var (nat_lit 819291)) = b from eL_v 1]
  exact loop _ _ hA hB rfl
