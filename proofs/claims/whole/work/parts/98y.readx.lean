/-! 98y: read: a byte, class (by wip/whole/mk98y.py) -/
theorem q_bpS : sBeg (nat_lit 0) (nat_lit 68) tXv (memB [(nat_lit 49)]) [] (fun m0 => sRun (nat_lit 3000) (nat_lit 19) (nat_lit 32) [] m0 [.inr (.inr (some (nat_lit 49))), .inl (.natCast (nat_lit 115)), .inl (.var (nat_lit 819290))] (fun v _ m => Bool.and (sKC (cRg [((nat_lit 200708), (nat_lit 200708))]) (nat_lit 0) (nat_lit 68) tXv (memB [(nat_lit 49)]) m0 m) (Bool.and (eqO v (some (.inl (.natCast (nat_lit 1))))) (isE m (nat_lit 49) (nat_lit 4) (.natCast (nat_lit 1)))))) = true := by decide +kernel
theorem q_bpC : sBeg (nat_lit 0) (nat_lit 68) tXv (memB [(nat_lit 49)]) [] (fun m0 => sRun (nat_lit 3000) (nat_lit 19) (nat_lit 32) [] m0 [.inr (.inr (some (nat_lit 49))), .inl (.natCast (nat_lit 40)), .inl (.var (nat_lit 819290))] (fun v _ m => Bool.and (sKC (cRg [((nat_lit 200708), (nat_lit 200708)), ((nat_lit 200711), (nat_lit 200715))]) (nat_lit 0) (nat_lit 68) tXv (memB [(nat_lit 49)]) m0 m) (Bool.and (eqO v (some (.inl (.natCast (nat_lit 1))))) (Bool.and (isE m (nat_lit 49) (nat_lit 4) (.natCast (nat_lit 2))) (Bool.and (isE m (nat_lit 49) (nat_lit 7) (.natCast (nat_lit 344865))) (Bool.and (isE m (nat_lit 49) (nat_lit 8) (.natCast (nat_lit 0))) (Bool.and (isE m (nat_lit 49) (nat_lit 9) (.natCast (nat_lit 0))) (Bool.and (isE m (nat_lit 49) (nat_lit 10) (.natCast (nat_lit 0))) (isE m (nat_lit 49) (nat_lit 11) (.natCast (nat_lit 0))))))))))) = true := by decide +kernel
theorem q_bpT : allL 81 (fun k => sBeg (nat_lit 0) (nat_lit 68) tXv (memB [(nat_lit 49), (nat_lit 53), (nat_lit 54), (nat_lit 55)]) [((nat_lit 53), (nat_lit 0), (.natCast k))] (fun m0 => sRun (nat_lit 3000) (nat_lit 19) (nat_lit 32) [] m0 [.inr (.inr (some (nat_lit 49))), .inl (.natCast (nat_lit 126)), .inl (.var (nat_lit 819290))] (fun v _ m => Bool.and (sKC (cRg [(nat_lit 217088, nat_lit 217088), (Nat.add (nat_lit 221184) k, Nat.add (nat_lit 221184) k), (Nat.add (nat_lit 225280) k, Nat.add (nat_lit 225280) k)]) (nat_lit 0) (nat_lit 68) tXv (memB [(nat_lit 49), (nat_lit 53), (nat_lit 54), (nat_lit 55)]) m0 m) (Bool.and (eqO v (some (.inl (.natCast (nat_lit 1))))) (Bool.and (isE m (nat_lit 53) (nat_lit 0) (.natCast (Nat.succ k))) (Bool.and (isE m (nat_lit 54) k (.natCast (nat_lit 3))) (isE m (nat_lit 55) k (.var (nat_lit 819290))))))))) = true := by decide +kernel
noncomputable def bpB (b k : Nat) : Bool := sBeg (nat_lit 0) (nat_lit 68) tXv (memB [(nat_lit 49), (nat_lit 53), (nat_lit 54), (nat_lit 55), (nat_lit 56)]) [((nat_lit 49), (nat_lit 3), (.natCast b)), ((nat_lit 53), (nat_lit 0), (.natCast k))] (fun m0 => sRun (nat_lit 3000) (nat_lit 19) (nat_lit 32) [] m0 [.inr (.inr (some (nat_lit 49))), .inl (.natCast (nat_lit 91)), .inl (.var (nat_lit 819290))] (fun v _ m => Bool.and (sKC (cRg [(nat_lit 217088, nat_lit 217088), (Nat.add (nat_lit 221184) k, Nat.add (nat_lit 221184) k), (Nat.add (nat_lit 225280) k, Nat.add (nat_lit 225280) k), (nat_lit 200707, nat_lit 200707), (Nat.add (nat_lit 229377) b, Nat.add (nat_lit 229377) b)]) (nat_lit 0) (nat_lit 68) tXv (memB [(nat_lit 49), (nat_lit 53), (nat_lit 54), (nat_lit 55), (nat_lit 56)]) m0 m) (Bool.and (eqO v (some (.inl (.natCast (nat_lit 1))))) (Bool.and (isE m (nat_lit 53) (nat_lit 0) (.natCast (Nat.succ k))) (Bool.and (isE m (nat_lit 54) k (.natCast (nat_lit 2))) (Bool.and (isE m (nat_lit 55) k (.var (nat_lit 819290))) (Bool.and (isE m (nat_lit 49) (nat_lit 3) (.natCast (Nat.succ b))) (isE m (nat_lit 56) (Nat.succ b) (.natCast (nat_lit 344865))))))))))
theorem q_bpB0 : allL 81 (fun k => bpB (nat_lit 0) k) = true := by decide +kernel
theorem q_bpB1 : allL 81 (fun k => bpB (nat_lit 1) k) = true := by decide +kernel
theorem q_bpB2 : allL 81 (fun k => bpB (nat_lit 2) k) = true := by decide +kernel
theorem q_bp3 : sBeg (nat_lit 0) (nat_lit 68) tXv (memB [(nat_lit 49)]) [((nat_lit 49), (nat_lit 3), (.natCast (nat_lit 3)))] (fun m0 => sRun (nat_lit 3000) (nat_lit 19) (nat_lit 32) [] m0 [.inr (.inr (some (nat_lit 49))), .inl (.natCast (nat_lit 91)), .inl (.var (nat_lit 819290))] (fun v _ m => Bool.and (sKC (cRg []) (nat_lit 0) (nat_lit 68) tXv (memB [(nat_lit 49)]) m0 m) (eqO v (some (.inl (.natCast (nat_lit 0))))))) = true := by decide +kernel
theorem q_bpX : allL 127 (fun b => Bool.or (memB [nat_lit 115, nat_lit 40, nat_lit 126, nat_lit 91, nat_lit 101] b) (sBeg (nat_lit 0) (nat_lit 68) tXv (memB [(nat_lit 49)]) [] (fun m0 => sRun (nat_lit 3000) (nat_lit 19) (nat_lit 32) [] m0 [.inr (.inr (some (nat_lit 49))), .inl (.natCast b), .inl (.var (nat_lit 819290))] (fun v _ m => Bool.and (sKC (cRg []) (nat_lit 0) (nat_lit 68) tXv (memB [(nat_lit 49)]) m0 m) (eqO v (some (.inl (.natCast (nat_lit 0))))))))) = true := by decide +kernel
noncomputable def LBp (b : Nat) : sL := [some (.inr (.inr (some (nat_lit 49)))), some (.inl (.natCast b)), some (.inl (.var (nat_lit 819290)))]
theorem q_bpE : sEnt [.inr (.inr (some (nat_lit 49))), .inl (.natCast (nat_lit 101)), .inl (.var (nat_lit 819290))] (PG (nat_lit 32)).2.1 (fun L => eqL eqO L (LBp (nat_lit 101))) = true := by decide +kernel
theorem q_bpe : sBeg (nat_lit 0) (nat_lit 68) tXv (memB [(nat_lit 49)]) [] (fun m0 => sx PG (nat_lit 500) (nat_lit 19) (PG (nat_lit 32)) (fun pc => memB [(nat_lit 85)] pc) (fun pc L st _ m => Bool.and (eqL eqC m m0) (kAt (nat_lit 85) (LBp (nat_lit 101)) [.inl (.natCast (nat_lit 344865)), .inr (.inr (some (nat_lit 49)))] pc L st)) (fun v _ m => Bool.and (eqL eqC m m0) false) (nat_lit 0) (LBp (nat_lit 101)) [] [] m0) = true := by decide +kernel
theorem q_bpr : sx PG (nat_lit 20) (nat_lit 19) (PG (nat_lit 32)) (fun _ => false) (fun _ _ _ _ _ => false) (fun v0 _ m => Bool.and (eqL eqC m []) (eqO v0 (some (.inl (.natCast (nat_lit 1)))))) (nat_lit 88) (LBp (nat_lit 101)) [] [] [] = true := by decide +kernel
noncomputable def LEs (b : Nat) : sL := [some (.inr (.inr (some (nat_lit 49)))), some (.inl (.natCast b)), some (.inl (.var (nat_lit 819290))), none]
noncomputable def LEt (b : Nat) : sL := [some (.inr (.inr (some (nat_lit 49)))), some (.inl (.natCast b)), some (.inl (.var (nat_lit 819290))), some (.inl (.natCast (Nat.sub b (nat_lit 48))))]
theorem q_esE : allL 127 (fun b => sEnt [.inr (.inr (some (nat_lit 49))), .inl (.natCast b), .inl (.var (nat_lit 819290))] (PG (nat_lit 34)).2.1 (fun L => eqL eqO L (LEs b))) = true := by decide +kernel
theorem q_esX : allL 127 (fun b => Bool.or (Bool.and (Nat.ble (nat_lit 49) b) (Nat.ble b (nat_lit 53))) (sBeg (nat_lit 0) (nat_lit 68) tXv (memB [(nat_lit 49)]) [] (fun m0 => sx PG (nat_lit 500) (nat_lit 19) (PG (nat_lit 34)) (fun pc => memB [(nat_lit 24), (nat_lit 35)] pc) (fun pc L st _ m => Bool.and (eqL eqC m m0) false) (fun v _ m => Bool.and (eqL eqC m m0) (eqO v (some (.inl (.natCast (nat_lit 0)))))) (nat_lit 0) (LEs b) [] [] m0))) = true := by decide +kernel
noncomputable def esG (n b : Nat) : Bool := sBeg (nat_lit 0) (nat_lit 68) tXv (memB [(nat_lit 49)]) [((nat_lit 49), (nat_lit 5), (.natCast n))] (fun m0 => sx PG (nat_lit 500) (nat_lit 19) (PG (nat_lit 34)) (fun pc => memB [(nat_lit 24), (nat_lit 35)] pc) (fun pc L st _ m => Bool.and (eqL eqC m m0) (kAt (nat_lit 24) (LEt b) [.inl (.natCast (Nat.sub b (nat_lit 48))), .inr (.inr (some (nat_lit 49)))] pc L st)) (fun v _ m => Bool.and (eqL eqC m m0) false) (nat_lit 0) (LEs b) [] [] m0)
noncomputable def esB (n b : Nat) : Bool := sBeg (nat_lit 0) (nat_lit 68) tXv (memB [(nat_lit 49)]) [((nat_lit 49), (nat_lit 5), (.natCast n))] (fun m0 => sx PG (nat_lit 500) (nat_lit 19) (PG (nat_lit 34)) (fun pc => memB [(nat_lit 24), (nat_lit 35)] pc) (fun pc L st _ m => Bool.and (eqL eqC m m0) (kAt (nat_lit 35) (LEt b) [.inl (.var (nat_lit 819290)), .inr (.inr (some (nat_lit 49)))] pc L st)) (fun v _ m => Bool.and (eqL eqC m m0) false) (nat_lit 0) (LEs b) [] [] m0)
theorem q_esF : allL 6 (fun n => allL 5 (fun i => Bool.rec (motive := fun _ => Bool) (esB n (Nat.add (nat_lit 49) i)) (esG n (Nat.add (nat_lit 49) i)) (Nat.ble (Nat.succ (Nat.succ i)) n))) = true := by decide +kernel
theorem q_es2 : allL 54 (fun b => sx PG (nat_lit 20) (nat_lit 19) (PG (nat_lit 34)) (fun pc => Nat.beq pc (nat_lit 41)) (fun pc L st _ m => Bool.and (eqL eqC m []) (kAt (nat_lit 41) (LEt b) [.inl (.natCast (nat_lit 344865)), .inr (.inr (some (nat_lit 49)))] pc L st)) (fun _ _ m => Bool.and (eqL eqC m []) false) (nat_lit 38) (LEt b) [] [] []) = true := by decide +kernel
theorem q_esr : allL 54 (fun b => Bool.and (sx PG (nat_lit 20) (nat_lit 19) (PG (nat_lit 34)) (fun _ => false) (fun _ _ _ _ _ => false) (fun v0 _ m => Bool.and (eqL eqC m []) (eqO v0 (some (.inl (.natCast (nat_lit 1)))))) (nat_lit 30) (LEt b) [] [] []) (sx PG (nat_lit 20) (nat_lit 19) (PG (nat_lit 34)) (fun _ => false) (fun _ _ _ _ _ => false) (fun v0 _ m => Bool.and (eqL eqC m []) (eqO v0 (some (.inl (.natCast (nat_lit 1)))))) (nat_lit 44) (LEt b) [] [] [])) = true := by decide +kernel
theorem q_gcE : allL 127 (fun b => sEnt [.inr (.inr (some (nat_lit 49))), .inl (.natCast b), .inl (.var (nat_lit 819290))] (PG (nat_lit 36)).2.1 (fun L => eqL eqO L (LBp b))) = true := by decide +kernel
theorem q_gcF : allL 5 (fun i => sBeg (nat_lit 0) (nat_lit 68) tXv (memB [(nat_lit 49)]) [] (fun m0 => sx PG (nat_lit 500) (nat_lit 19) (PG (nat_lit 36)) (fun pc => memB [(nat_lit 12), (nat_lit 44)] pc) (fun pc L st _ m => Bool.and (eqL eqC m m0) (kAt (nat_lit 12) (LBp (Nat.add (nat_lit 49) i)) [.inl (.natCast (Nat.succ i)), .inr (.inr (some (nat_lit 49)))] pc L st)) (fun v _ m => Bool.and (eqL eqC m m0) false) (nat_lit 0) (LBp (Nat.add (nat_lit 49) i)) [] [] m0)) = true := by decide +kernel
theorem q_gcT : sBeg (nat_lit 0) (nat_lit 68) tXv (memB [(nat_lit 49)]) [] (fun m0 => sx PG (nat_lit 500) (nat_lit 19) (PG (nat_lit 36)) (fun pc => memB [(nat_lit 12), (nat_lit 44)] pc) (fun pc L st _ m => Bool.and (eqL eqC m m0) (kAt (nat_lit 44) (LBp (nat_lit 41)) [.inl (.var (nat_lit 200711)), .inr (.inr (some (nat_lit 49)))] pc L st)) (fun v _ m => Bool.and (eqL eqC m m0) false) (nat_lit 0) (LBp (nat_lit 41)) [] [(false, false, (.var (nat_lit 200712)), (.natCast (nat_lit 2)))] m0) = true := by decide +kernel
theorem q_gcU : sBeg (nat_lit 0) (nat_lit 68) tXv (memB [(nat_lit 49)]) [] (fun m0 => sx PG (nat_lit 500) (nat_lit 19) (PG (nat_lit 36)) (fun pc => memB [(nat_lit 12), (nat_lit 44)] pc) (fun pc L st _ m => Bool.and (eqL eqC m m0) false) (fun v _ m => Bool.and (eqL eqC m m0) (eqO v (some (.inl (.natCast (nat_lit 0)))))) (nat_lit 0) (LBp (nat_lit 41)) [] [(false, true, (.var (nat_lit 200712)), (.natCast (nat_lit 2)))] m0) = true := by decide +kernel
theorem q_gcX : allL 127 (fun b => Bool.or (Bool.or (Nat.beq b (nat_lit 41)) (Bool.and (Nat.ble (nat_lit 49) b) (Nat.ble b (nat_lit 53)))) (sBeg (nat_lit 0) (nat_lit 68) tXv (memB [(nat_lit 49)]) [] (fun m0 => sx PG (nat_lit 500) (nat_lit 19) (PG (nat_lit 36)) (fun pc => memB [(nat_lit 12), (nat_lit 44)] pc) (fun pc L st _ m => Bool.and (eqL eqC m m0) false) (fun v _ m => Bool.and (eqL eqC m m0) (eqO v (some (.inl (.natCast (nat_lit 0)))))) (nat_lit 0) (LBp b) [] [] m0))) = true := by decide +kernel
theorem q_gcr : allL 54 (fun b => Bool.and (sx PG (nat_lit 20) (nat_lit 19) (PG (nat_lit 36)) (fun _ => false) (fun _ _ _ _ _ => false) (fun v0 _ m => Bool.and (eqL eqC m []) (eqO v0 (some (.inl (.natCast (nat_lit 1)))))) (nat_lit 15) (LBp b) [.inl (.natCast (nat_lit 1))] [] []) (Bool.and (sx PG (nat_lit 20) (nat_lit 19) (PG (nat_lit 36)) (fun _ => false) (fun _ _ _ _ _ => false) (fun v0 _ m => Bool.and (eqL eqC m []) (eqO v0 (some (.inl (.natCast (nat_lit 1)))))) (nat_lit 23) (LBp b) [] [] []) (sx PG (nat_lit 20) (nat_lit 19) (PG (nat_lit 36)) (fun _ => false) (fun _ _ _ _ _ => false) (fun v0 _ m => Bool.and (eqL eqC m []) (eqO v0 (some (.inl (.natCast (nat_lit 1)))))) (nat_lit 47) (LBp b) [] [] []))) = true := by decide +kernel
theorem q_gc0 : allL 54 (fun b => sx PG (nat_lit 20) (nat_lit 19) (PG (nat_lit 36)) (fun pc => Nat.beq pc (nat_lit 20)) (fun pc L st _ m => Bool.and (eqL eqC m []) (kAt (nat_lit 20) (LBp b) [.inl (.var (nat_lit 819290)), .inr (.inr (some (nat_lit 49)))] pc L st)) (fun _ _ m => Bool.and (eqL eqC m []) false) (nat_lit 15) (LBp b) [.inl (.natCast (nat_lit 0))] [] []) = true := by decide +kernel
noncomputable def LBh (b : Nat) (x : Option sV) : sL := [some (.inr (.inr (some (nat_lit 49)))), some (.inl (.natCast b)), x]
theorem q_bhE : allL 127 (fun b => sEnt [.inr (.inr (some (nat_lit 49))), .inl (.natCast b)] (PG (nat_lit 38)).2.1 (fun L => eqL eqO L (LBh b none))) = true := by decide +kernel
theorem q_bhS : sBeg (nat_lit 0) (nat_lit 68) tXv (memB [(nat_lit 49)]) [] (fun m0 => sx PG (nat_lit 2000) (nat_lit 19) (PG (nat_lit 38)) (fun pc => memB [(nat_lit 61)] pc) (fun pc L st _ m => Bool.and (sKC (cRg [((nat_lit 200708), (nat_lit 200708))]) (nat_lit 0) (nat_lit 68) tXv (memB [(nat_lit 49)]) m0 m) false) (fun v _ m => Bool.and (sKC (cRg [((nat_lit 200708), (nat_lit 200708))]) (nat_lit 0) (nat_lit 68) tXv (memB [(nat_lit 49)]) m0 m) (Bool.and (eqO v (some (.inl (.natCast (nat_lit 1))))) (isE m (nat_lit 49) (nat_lit 4) (.natCast (nat_lit 0))))) (nat_lit 0) (LBh (nat_lit 42) none) [] [] m0) = true := by decide +kernel
theorem q_bh0 : sBeg (nat_lit 0) (nat_lit 68) tXv (memB [(nat_lit 49)]) [((nat_lit 49), (nat_lit 3), (.natCast (nat_lit 0)))] (fun m0 => sx PG (nat_lit 500) (nat_lit 19) (PG (nat_lit 38)) (fun pc => memB [(nat_lit 61)] pc) (fun pc L st _ m => Bool.and (eqL eqC m m0) false) (fun v _ m => Bool.and (eqL eqC m m0) (eqO v (some (.inl (.natCast (nat_lit 0)))))) (nat_lit 0) (LBh (nat_lit 93) none) [] [] m0) = true := by decide +kernel
noncomputable def bhQ (b k : Nat) : Bool := sBeg (nat_lit 0) (nat_lit 68) tXv (memB [(nat_lit 49), (nat_lit 53), (nat_lit 56)]) [((nat_lit 49), (nat_lit 3), (.natCast (Nat.succ b))), ((nat_lit 53), (nat_lit 0), (.natCast (Nat.succ k)))] (fun m0 => sx PG (nat_lit 2000) (nat_lit 19) (PG (nat_lit 38)) (fun pc => memB [(nat_lit 61)] pc) (fun pc L st _ m => Bool.and (sKC (cRg [((nat_lit 200707), (nat_lit 200707)), ((nat_lit 217088), (nat_lit 217088))]) (nat_lit 0) (nat_lit 68) tXv (memB [(nat_lit 49), (nat_lit 53), (nat_lit 56)]) m0 m) (Bool.and (kAt (nat_lit 61) (LBh (nat_lit 93) (some (.inl (.var (Nat.add (nat_lit 229377) b))))) [.inl (.var (Nat.add (nat_lit 229377) b)), .inr (.inr (some (nat_lit 49)))] pc L st) (Bool.and (isE m (nat_lit 49) (nat_lit 3) (.natCast b)) (isE m (nat_lit 53) (nat_lit 0) (.natCast k))))) (fun v _ m => Bool.and (sKC (cRg [((nat_lit 200707), (nat_lit 200707)), ((nat_lit 217088), (nat_lit 217088))]) (nat_lit 0) (nat_lit 68) tXv (memB [(nat_lit 49), (nat_lit 53), (nat_lit 56)]) m0 m) false) (nat_lit 0) (LBh (nat_lit 93) none) [] [] m0)
theorem q_bhQ : allL 3 (fun b => allL 80 (fun k => bhQ b k)) = true := by decide +kernel
theorem q_bhX : allL 127 (fun b => Bool.or (memB [nat_lit 42, nat_lit 93] b) (sBeg (nat_lit 0) (nat_lit 68) tXv (memB [(nat_lit 49)]) [] (fun m0 => sx PG (nat_lit 500) (nat_lit 19) (PG (nat_lit 38)) (fun pc => memB [(nat_lit 61)] pc) (fun pc L st _ m => Bool.and (eqL eqC m m0) false) (fun v _ m => Bool.and (eqL eqC m m0) (eqO v (some (.inl (.natCast (nat_lit 0)))))) (nat_lit 0) (LBh b none) [] [] m0))) = true := by decide +kernel
theorem q_bhr : sx PG (nat_lit 20) (nat_lit 19) (PG (nat_lit 38)) (fun _ => false) (fun _ _ _ _ _ => false) (fun v0 _ m => Bool.and (eqL eqC m []) (eqO v0 (some (.inl (.natCast (nat_lit 1)))))) (nat_lit 64) (LBh (nat_lit 93) (some (.inl (.var (nat_lit 819290))))) [] [] [] = true := by decide +kernel
section RY
variable {D : va_G} {cy : Nat → ClassId} {al : Nat → Nat} {rest : va_W}
theorem LBp_eq {r : sE} {b : Nat} {p : Int32} {vs : List Int32} : (LBp b).map (Option.map (sVal (uM r (p :: vs)) al)) = [some (.ref (al 49)), some (.int (Int32.ofNat b)), some (.int p)] := by
  simp only [LBp, List.map_cons, List.map_nil, Option.map_some, sVal, uM0, sI_c]
/-- behind a PART -/
theorem XS_end {n p q : Nat} {r0 r r1 : sE} {O : txT} {M : List (List Nat)} {o s : List Nat} {f : Nat} {W : Option txT} (hp : p ≤ q) (h5 : r.1 (xP 49 5) = Int32.ofNat n) (hO : okT O ∧ O.length ≤ p ∧ cbT O + 1 = M.length) (hW : XW r W ∧ (∀ T, W = some T → T.length ≤ 81) ∧ (W = none → ∀ u, whyP u → r.1 u = r0.1 u)) (hB : kpC (cRg CHB) 0 68 tXv r0 r) (h : kpC (cRg CHE) 0 68 tXv r r1) (h1 : XO r1 (txE O M o).1) (h2 : XM n r1 (txE O M o).2) (h4 : r1.1 (xP 49 4) = Int32.ofNat 3) : XS n q r0 r1 (txF O M o s f W) := by
  obtain ⟨e1, e2⟩ := txE_len (M := M) (O := O) (o := o)
  obtain ⟨e3, e4⟩ := txE_cb (M := M) (O := O) (o := o)
  refine ⟨⟨h4, (kpR h (vX_49 5 (by omega) (by omega)) ⟨by first | omega | (unfold xP; omega), by first | omega | (unfold xP; omega), by first | omega | (unfold xP; omega), trivial⟩).trans h5, by show 3 < 4; omega⟩, ⟨h1, txE_ok hO.1, Nat.le_trans (Nat.le_trans e1 hO.2.1) hp, ?_, fun _ => e4⟩, h2, fun q => neQ (a := 3) (b := 2) rfl q, ⟨XW_st h hW.2.1 ⟨by first | omega | (unfold xP; omega), by first | omega | (unfold xP; omega), by first | omega | (unfold xP; omega), trivial⟩ ⟨by first | omega | (unfold xP; omega), by first | omega | (unfold xP; omega), by first | omega | (unfold xP; omega), trivial⟩ (fun i hi => ⟨⟨by first | omega | (unfold xP; omega), by first | omega | (unfold xP; omega), by first | omega | (unfold xP; omega), trivial⟩, ⟨by first | omega | (unfold xP; omega), by first | omega | (unfold xP; omega), by first | omega | (unfold xP; omega), trivial⟩⟩) hW.1, hW.2.1, fun hw u hu => (kpR h (vX_w hu) (by unfold whyP at hu; exact ⟨by first | omega | (unfold xP; omega), by first | omega | (unfold xP; omega), by first | omega | (unfold xP; omega), trivial⟩)).trans (hW.2.2 hw u hu)⟩, kpC_trans hB (CHB_w h ⟨⟨by omega, by omega⟩, ⟨by omega, by omega⟩, ⟨by omega, by omega⟩, trivial⟩)⟩
  show cbT (txE O M o).1 + 1 = (txE O M o).2.length
  rw [e3, e2]
  exact hO.2.2
theorem st_nil {n p b : Nat} {r0 r : sE} {σ : txS} {v : Option Value} (hX : XS n p r0 r σ) (hn : txD n σ b p = none) (hv : v = some (.int (Int32.ofNat 0))) : XR n p r0 σ b v r := by
  unfold XR
  rw [hn]
  exact ⟨hv, hX⟩
theorem st_some {n p b : Nat} {r0 r1 : sE} {σ σ1 : txS} {v : Option Value} (hn : txD n σ b p = some σ1) (hv : v = some (.int (Int32.ofNat 1))) (hX : XS n (p + 1) r0 r1 σ1) : XR n p r0 σ b v r1 := by
  unfold XR
  rw [hn]
  exact ⟨hv, hX⟩
theorem XS_kp0 {n p : Nat} {r0 r r1 : sE} {σ : txS} (hp : p ≤ 81) (h : kpC (cRg []) 0 68 tXv r r1) (hX : XS n p r0 r σ) : XS n p r0 r1 σ := by
  obtain ⟨⟨a1, a2, a3⟩, ⟨b1, b2, b3, b4, b5⟩, c1, d1, ⟨e1, e2, e3⟩, f1⟩ := hX
  refine ⟨⟨(kpR h (vX_49 4 (by omega) (by omega)) trivial).trans a1, (kpR h (vX_49 5 (by omega) (by omega)) trivial).trans a2, a3⟩, ⟨XO_st h (Nat.le_trans b3 hp) trivial (fun i hi => ⟨trivial, trivial⟩) b1, b2, b3, b4, b5⟩, XM_st h trivial (fun i hi => trivial) c1, fun q => ?_, ⟨XW_st h e2 trivial trivial (fun i hi => ⟨trivial, trivial⟩) e1, e2, fun hw u hu => (kpR h (vX_w hu) trivial).trans (e3 hw u hu)⟩, kpC_trans f1 (CHB_w h trivial)⟩
  obtain ⟨⟨g1, g2, g3, g4, g5, g6⟩, g7⟩ := d1 q
  exact ⟨⟨g1, (kpR h (vX_49 7 (by omega) (by omega)) trivial).trans g2, (kpR h (vX_49 8 (by omega) (by omega)) trivial).trans g3, (kpR h (vX_49 9 (by omega) (by omega)) trivial).trans g4, (kpR h (vX_49 10 (by omega) (by omega)) trivial).trans g5, (kpR h (vX_49 11 (by omega) (by omega)) trivial).trans g6⟩, g7⟩
theorem cb3 {p : Nat} {O : txT} : cbT ((3, p) :: O) = cbT O := rfl
theorem cb2 {p : Nat} {O : txT} : cbT ((2, p) :: O) = cbT O + 1 := rfl
theorem ocI : ocode txI = 344865 := by decide +kernel
theorem c_st0 (l : Launch) {r0 r : sE} {n p b f : Nat} {O : txT} {M : List (List Nat)} {s : List Nat} {W : Option txT} (hn : 1 ≤ n) (hn5 : n ≤ 5) (hp : p < 80) (hb : b < 127) (hX : XS n p r0 r (0, O, M, s, f, W)) : gMet l D cy al 19 32 (tW r al cy rest 68 tXv) [.ref (al 49), .int (Int32.ofNat b), .int (Int32.ofNat p)] (fun v w => isB v ∧ ∃ r1, w = tW r1 al cy rest 68 tXv ∧ XR n p r0 (0, O, M, s, f, W) b v r1) := by
  obtain ⟨⟨a1, a2, a3⟩, ⟨b1, b2, b3, b4, b5⟩, c1, d1, ⟨e1, e2, e3⟩, f1⟩ := id hX
  replace a1 : r.1 (xP 49 4) = Int32.ofNat 0 := a1
  replace b1 : XO r O := b1
  replace b2 : okT O := b2
  replace b3 : O.length ≤ p := b3
  replace b4 : cbT O + 1 = M.length := b4
  replace c1 : XM n r M := c1
  replace e1 : XW r W := e1
  replace e2 : ∀ T, W = some T → T.length ≤ 81 := e2
  replace e3 : W = none → ∀ u, whyP u → r.1 u = r0.1 u := e3
  by_cases h115 : b = 115
  · subst h115
    have g := c_runU l (D := D) (al := al) (cy := cy) (rest := rest) (r := r) (vs := [Int32.ofNat p]) (G := fun v w => isB v ∧ ∃ r1, w = tW r1 al cy rest 68 tXv ∧ XR n p r0 (0, O, M, s, f, W) 115 v r1) (by omega) tXv_ok cC_X sPa_nil (oX_nil) (q_bpS) (fun m0 x pa m hk1 hp1 hkp0 => ?_)
    · simp only [List.map_cons, List.map_nil, sVal, uM0, sI_c] at g
      exact g
    rw [Bool.and_eq_true] at hk1
    have hkp : kpC (cRg [(200708, 200708)]) 0 68 tXv r _ := hkp0
    exact ⟨Or.inr (vI_ok hk1.1), _, rfl, st_some (σ1 := (1, O, M, s, f, W)) rfl (vI_ok hk1.1) ⟨⟨eU_c (by first | decide | omega) hk1.2, (kpR hkp (vX_49 5 (by omega) (by omega)) ⟨by first | omega | (unfold xP; omega), trivial⟩).trans a2, by simp⟩, ⟨XO_st (O := O) hkp (by omega) ⟨by first | omega | (unfold xP; omega), trivial⟩ (fun i hi => ⟨⟨by first | omega | (unfold xP; omega), trivial⟩, ⟨by first | omega | (unfold xP; omega), trivial⟩⟩) b1, b2, Nat.le_succ_of_le b3, b4, fun q => neQ (a := 1) (b := 3) rfl q⟩, XM_st hkp ⟨by first | omega | (unfold xP; omega), trivial⟩ (fun i hi => ⟨by first | omega | (unfold xP; omega), trivial⟩) c1, fun q => neQ (a := 1) (b := 2) rfl q, ⟨XW_st hkp e2 ⟨by first | omega | (unfold xP; omega), trivial⟩ ⟨by first | omega | (unfold xP; omega), trivial⟩ (fun i hi => ⟨⟨by first | omega | (unfold xP; omega), trivial⟩, ⟨by first | omega | (unfold xP; omega), trivial⟩⟩) e1, e2, fun hw u hu => (kpR hkp (vX_w hu) (by unfold whyP at hu; exact ⟨by first | omega | (unfold xP; omega), trivial⟩)).trans (e3 hw u hu)⟩, kpC_trans f1 (CHB_w hkp ⟨⟨by omega, by omega⟩, trivial⟩)⟩⟩
  by_cases h40 : b = 40
  · subst h40
    have g := c_runU l (D := D) (al := al) (cy := cy) (rest := rest) (r := r) (vs := [Int32.ofNat p]) (G := fun v w => isB v ∧ ∃ r1, w = tW r1 al cy rest 68 tXv ∧ XR n p r0 (0, O, M, s, f, W) 40 v r1) (by omega) tXv_ok cC_X sPa_nil (oX_nil) (q_bpC) (fun m0 x pa m hk1 hp1 hkp0 => ?_)
    · simp only [List.map_cons, List.map_nil, sVal, uM0, sI_c] at g
      exact g
    simp only [Bool.and_eq_true] at hk1
    obtain ⟨k1, k2, k3, k4, k5, k6, k7⟩ := hk1
    have hkp : kpC (cRg [(200708, 200708), (200711, 200715)]) 0 68 tXv r _ := hkp0
    have hz : ([] : List Nat) ∈ SQ ∧ ocode (txC []) = 344865 := ⟨List.mem_cons_self, by decide +kernel⟩
    exact ⟨Or.inr (vI_ok k1), _, rfl, st_some (σ1 := (2, O, M, [], 0, W)) rfl (vI_ok k1) ⟨⟨eU_c (by first | decide | omega) k2, (kpR hkp (vX_49 5 (by omega) (by omega)) ⟨by first | omega | (unfold xP; omega), by first | omega | (unfold xP; omega), trivial⟩).trans a2, by simp⟩, ⟨XO_st (O := O) hkp (by omega) ⟨by first | omega | (unfold xP; omega), by first | omega | (unfold xP; omega), trivial⟩ (fun i hi => ⟨⟨by first | omega | (unfold xP; omega), by first | omega | (unfold xP; omega), trivial⟩, ⟨by first | omega | (unfold xP; omega), by first | omega | (unfold xP; omega), trivial⟩⟩) b1, b2, Nat.le_succ_of_le b3, b4, fun q => neQ (a := 2) (b := 3) rfl q⟩, XM_st hkp ⟨by first | omega | (unfold xP; omega), by first | omega | (unfold xP; omega), trivial⟩ (fun i hi => ⟨by first | omega | (unfold xP; omega), by first | omega | (unfold xP; omega), trivial⟩) c1, fun _ => ⟨⟨⟨hz.1, fun a ha => nomatch ha⟩, (eU_c (by first | decide | omega) k3).trans (congrArg Int32.ofNat hz.2.symm), eU_c (by first | decide | omega) k4, eU_c (by first | decide | omega) k5, eU_c (by first | decide | omega) k6, eU_c (by first | decide | omega) k7⟩, Nat.zero_le _⟩, ⟨XW_st hkp e2 ⟨by first | omega | (unfold xP; omega), by first | omega | (unfold xP; omega), trivial⟩ ⟨by first | omega | (unfold xP; omega), by first | omega | (unfold xP; omega), trivial⟩ (fun i hi => ⟨⟨by first | omega | (unfold xP; omega), by first | omega | (unfold xP; omega), trivial⟩, ⟨by first | omega | (unfold xP; omega), by first | omega | (unfold xP; omega), trivial⟩⟩) e1, e2, fun hw u hu => (kpR hkp (vX_w hu) (by unfold whyP at hu; exact ⟨by first | omega | (unfold xP; omega), by first | omega | (unfold xP; omega), trivial⟩)).trans (e3 hw u hu)⟩, kpC_trans f1 (CHB_w hkp ⟨⟨by omega, by omega⟩, ⟨by omega, by omega⟩, trivial⟩)⟩⟩
  by_cases h126 : b = 126
  · subst h126
    have g := c_runU l (D := D) (al := al) (cy := cy) (rest := rest) (r := r) (vs := [Int32.ofNat p]) (G := fun v w => isB v ∧ ∃ r1, w = tW r1 al cy rest 68 tXv ∧ XR n p r0 (0, O, M, s, f, W) 126 v r1) (by omega) tXv_ok cC_X sPa_nil (oX_cons (uMc (by decide) b1.1) oX_nil) (allL_ok q_bpT O.length (by omega)) (fun m0 x pa m hk1 hp1 hkp0 => ?_)
    · simp only [List.map_cons, List.map_nil, sVal, uM0, sI_c] at g
      exact g
    simp only [Bool.and_eq_true] at hk1
    obtain ⟨k1, k2, k3, k4⟩ := hk1
    have hkp : kpC (cRg [(217088, 217088), (221184 + O.length, 221184 + O.length), (225280 + O.length, 225280 + O.length)]) 0 68 tXv r _ := hkp0
    exact ⟨Or.inr (vI_ok k1), _, rfl, st_some (σ1 := (0, (3, p) :: O, M, s, f, W)) rfl (vI_ok k1) ⟨⟨(kpR hkp (vX_49 4 (by omega) (by omega)) ⟨by first | omega | (unfold xP; omega), by first | omega | (unfold xP; omega), by first | omega | (unfold xP; omega), trivial⟩).trans a1, (kpR hkp (vX_49 5 (by omega) (by omega)) ⟨by first | omega | (unfold xP; omega), by first | omega | (unfold xP; omega), by first | omega | (unfold xP; omega), trivial⟩).trans a2, by simp⟩, ⟨⟨eU_c (by first | decide | omega) k2, ⟨eU_c (by first | decide | omega) k3, eU_0 (by first | decide | omega) k4⟩, rwX_st hkp (by omega) (fun i hi => ⟨⟨by first | omega | (unfold xP; omega), by first | omega | (unfold xP; omega), by first | omega | (unfold xP; omega), trivial⟩, ⟨by first | omega | (unfold xP; omega), by first | omega | (unfold xP; omega), by first | omega | (unfold xP; omega), trivial⟩⟩) b1.2⟩, fun x hx => by
      rcases List.mem_cons.mp hx with rfl | hx
      · exact Or.inr rfl
      · exact b2 x hx, Nat.succ_le_succ b3, by show cbT ((3, p) :: O) + 1 = M.length; rw [cb3]; exact b4, fun q => neQ (a := 0) (b := 3) rfl q⟩, XM_st hkp ⟨by first | omega | (unfold xP; omega), by first | omega | (unfold xP; omega), by first | omega | (unfold xP; omega), trivial⟩ (fun i hi => ⟨by first | omega | (unfold xP; omega), by first | omega | (unfold xP; omega), by first | omega | (unfold xP; omega), trivial⟩) c1, fun q => neQ (a := 0) (b := 2) rfl q, ⟨XW_st hkp e2 ⟨by first | omega | (unfold xP; omega), by first | omega | (unfold xP; omega), by first | omega | (unfold xP; omega), trivial⟩ ⟨by first | omega | (unfold xP; omega), by first | omega | (unfold xP; omega), by first | omega | (unfold xP; omega), trivial⟩ (fun i hi => ⟨⟨by first | omega | (unfold xP; omega), by first | omega | (unfold xP; omega), by first | omega | (unfold xP; omega), trivial⟩, ⟨by first | omega | (unfold xP; omega), by first | omega | (unfold xP; omega), by first | omega | (unfold xP; omega), trivial⟩⟩) e1, e2, fun hw u hu => (kpR hkp (vX_w hu) (by unfold whyP at hu; exact ⟨by first | omega | (unfold xP; omega), by first | omega | (unfold xP; omega), by first | omega | (unfold xP; omega), trivial⟩)).trans (e3 hw u hu)⟩, kpC_trans f1 (CHB_w hkp ⟨⟨by omega, by omega⟩, ⟨by omega, by omega⟩, ⟨by omega, by omega⟩, trivial⟩)⟩⟩
  by_cases h91 : b = 91
  · subst h91
    obtain ⟨g, hg⟩ : ∃ g, M.length = g + 1 := ⟨M.length - 1, by have := c1.1.1; omega⟩
    have hbr : r.1 (xP 49 3) = Int32.ofNat g := c1.2.2.1.trans (by rw [hg]; rfl)
    by_cases h4 : M.length < 4
    · have hq : bpB g O.length = true := by
        rcases (show g = 0 ∨ g = 1 ∨ g = 2 by omega) with rfl | rfl | rfl
        · exact allL_ok q_bpB0 _ (by omega)
        · exact allL_ok q_bpB1 _ (by omega)
        · exact allL_ok q_bpB2 _ (by omega)
      have g := c_runU l (D := D) (al := al) (cy := cy) (rest := rest) (r := r) (vs := [Int32.ofNat p]) (G := fun v w => isB v ∧ ∃ r1, w = tW r1 al cy rest 68 tXv ∧ XR n p r0 (0, O, M, s, f, W) 91 v r1) (by omega) tXv_ok cC_X sPa_nil (oX_cons (uMc (by decide) hbr) (oX_cons (uMc (by decide) b1.1) oX_nil)) (hq) (fun m0 x pa m hk1 hp1 hkp0 => ?_)
      · simp only [List.map_cons, List.map_nil, sVal, uM0, sI_c] at g
        exact g
      simp only [Bool.and_eq_true] at hk1
      obtain ⟨k1, k2, k3, k4, k5, k6⟩ := hk1
      have hkp : kpC (cRg [(217088, 217088), (221184 + O.length, 221184 + O.length), (225280 + O.length, 225280 + O.length), (200707, 200707), (229377 + g, 229377 + g)]) 0 68 tXv r _ := hkp0
      refine ⟨Or.inr (vI_ok k1), _, rfl, st_some (σ1 := (0, (2, p) :: O, txI :: M, s, f, W)) ?_ (vI_ok k1) ⟨⟨(kpR hkp (vX_49 4 (by omega) (by omega)) ⟨by first | omega | (unfold xP; omega), by first | omega | (unfold xP; omega), by first | omega | (unfold xP; omega), by first | omega | (unfold xP; omega), by first | omega | (unfold xP; omega), trivial⟩).trans a1, (kpR hkp (vX_49 5 (by omega) (by omega)) ⟨by first | omega | (unfold xP; omega), by first | omega | (unfold xP; omega), by first | omega | (unfold xP; omega), by first | omega | (unfold xP; omega), by first | omega | (unfold xP; omega), trivial⟩).trans a2, by simp⟩, ⟨⟨eU_c (by first | decide | omega) k2, ⟨eU_c (by first | decide | omega) k3, eU_0 (by first | decide | omega) k4⟩, rwX_st hkp (by omega) (fun i hi => ⟨⟨by first | omega | (unfold xP; omega), by first | omega | (unfold xP; omega), by first | omega | (unfold xP; omega), by first | omega | (unfold xP; omega), by first | omega | (unfold xP; omega), trivial⟩, ⟨by first | omega | (unfold xP; omega), by first | omega | (unfold xP; omega), by first | omega | (unfold xP; omega), by first | omega | (unfold xP; omega), by first | omega | (unfold xP; omega), trivial⟩⟩) b1.2⟩, fun x hx => ?_, Nat.succ_le_succ b3, ?_, fun q => neQ (a := 0) (b := 3) rfl q⟩, ⟨⟨by simp, by simp; omega⟩, fun x hx => ?_, ?_, ?_, ?_⟩, fun q => neQ (a := 0) (b := 2) rfl q, ⟨XW_st hkp e2 ⟨by first | omega | (unfold xP; omega), by first | omega | (unfold xP; omega), by first | omega | (unfold xP; omega), by first | omega | (unfold xP; omega), by first | omega | (unfold xP; omega), trivial⟩ ⟨by first | omega | (unfold xP; omega), by first | omega | (unfold xP; omega), by first | omega | (unfold xP; omega), by first | omega | (unfold xP; omega), by first | omega | (unfold xP; omega), trivial⟩ (fun i hi => ⟨⟨by first | omega | (unfold xP; omega), by first | omega | (unfold xP; omega), by first | omega | (unfold xP; omega), by first | omega | (unfold xP; omega), by first | omega | (unfold xP; omega), trivial⟩, ⟨by first | omega | (unfold xP; omega), by first | omega | (unfold xP; omega), by first | omega | (unfold xP; omega), by first | omega | (unfold xP; omega), by first | omega | (unfold xP; omega), trivial⟩⟩) e1, e2, fun hw u hu => (kpR hkp (vX_w hu) (by unfold whyP at hu; exact ⟨by first | omega | (unfold xP; omega), by first | omega | (unfold xP; omega), by first | omega | (unfold xP; omega), by first | omega | (unfold xP; omega), by first | omega | (unfold xP; omega), trivial⟩)).trans (e3 hw u hu)⟩, kpC_trans f1 (CHB_w hkp ⟨⟨by omega, by omega⟩, ⟨by omega, by omega⟩, ⟨by omega, by omega⟩, ⟨by omega, by omega⟩, ⟨by omega, by omega⟩, trivial⟩)⟩⟩
      · show (if M.length < 4 then some (0, (2, p) :: O, txI :: M, s, f, W) else none) = _
        rw [if_pos h4]
      · rcases List.mem_cons.mp hx with rfl | hx
        · exact Or.inl rfl
        · exact b2 x hx
      · show cbT ((2, p) :: O) + 1 = M.length + 1
        rw [cb2, b4]
      · rcases List.mem_cons.mp hx with rfl | hx
        · exact txI_in hn hn5
        · exact c1.2.1 x hx
      · refine (eU_c (by first | decide | omega) k5).trans ?_
        show Int32.ofNat (g + 1) = Int32.ofNat (M.length + 1 - 1)
        rw [hg]
        rfl
      · show (eOf _ _ _).1 (xP 56 0 + M.length) = Int32.ofNat (ocode txI)
        rw [ocI, hg]
        exact eU_c (by show g + 1 < 4096; omega) k6
      · exact rwM_kp hkp (by omega) (fun i hi => ⟨by first | omega | (unfold xP; omega), by first | omega | (unfold xP; omega), by first | omega | (unfold xP; omega), by first | omega | (unfold xP; omega), by first | omega | (unfold xP; omega), trivial⟩) c1.2.2.2
    · obtain rfl : g = 3 := by have := c1.1.2; omega
      have g := c_runU l (D := D) (al := al) (cy := cy) (rest := rest) (r := r) (vs := [Int32.ofNat p]) (G := fun v w => isB v ∧ ∃ r1, w = tW r1 al cy rest 68 tXv ∧ XR n p r0 (0, O, M, s, f, W) 91 v r1) (by omega) tXv_ok cC_X sPa_nil (oX_cons (uMc (by decide) hbr) oX_nil) (q_bp3) (fun m0 x pa m hk1 hp1 hkp0 => ?_)
      · simp only [List.map_cons, List.map_nil, sVal, uM0, sI_c] at g
        exact g
      refine ⟨Or.inl (vI_ok hk1), _, rfl, st_nil (XS_kp0 (by omega) hkp0 hX) ?_ (vI_ok hk1)⟩
      show (if M.length < 4 then some (0, (2, p) :: O, txI :: M, s, f, W) else none) = _
      rw [if_neg h4]
  by_cases h101 : b = 101
  · subst h101
    have key := gMet_of (l := l) (D := D) (cy := cy) (al := al) (d := 19) (k := 32) (w := tW r al cy rest 68 tXv) (r := uM r [Int32.ofNat p]) (G := (fun v w => isB v ∧ ∃ r1, w = tW r1 al cy rest 68 tXv ∧ XR n p r0 (0, O, M, s, f, W) 101 v r1)) q_bpE (fun At hFC => ?_)
    · simp only [List.map_cons, List.map_nil, sVal, uM0, sI_c] at key
      exact key
    have g := g_segV hFC (r := r) (vs := [Int32.ofNat p]) (al := al) (cy := cy) (rest := rest) (by omega) tXv_ok cC_X sPa_nil oX_nil q_bpe (fun pc L st pa hk1 hp1 => ?_) (fun v pa hk1 => nomatch hk1)
    · exact g
    obtain ⟨rfl, rfl, rfl⟩ := kAt_ok hk1
    have es : List.map (sVal (uM r [Int32.ofNat p]) al) [.inl (.natCast (nat_lit 344865)), .inr (.inr (some (nat_lit 49)))] = ([.ref (al 49), .int (Int32.ofNat (ocode txI))] : List Value).reverse ++ [] := by
      rw [ocI]
      simp only [List.map_cons, List.map_nil, sVal, sI_c]
      rfl
    rw [es]
    refine hFC.2 85 88 39 18 _ _ _ _ _ ⟨_, _, rfl, rfl⟩ rfl (by decide) rfl (gRecv_x (j := 49) (show 49 < 68 by omega) rfl rfl) (c_end l (by omega) hn hn5 b1 (by omega) b2 c1 (txI_in hn hn5)) (fun v1 w2 h => ?_)
    obtain ⟨rfl, r1, k1, k2, k3, k4, rfl⟩ := h
    have g := g_ret (v := some (.int (Int32.ofNat 1))) hFC (r := uM r [Int32.ofNat p]) (w := tW r1 al cy rest 68 tXv) q_bpr (fun v0 h0 => vI_ok h0) ⟨Or.inr rfl, r1, rfl, st_some (σ1 := txF O M txI s f W) rfl rfl (XS_end (by omega) a2 ⟨b2, b3, b4⟩ ⟨e1, e2, e3⟩ f1 k1 k2 k3 k4)⟩
    exact g
  have hq := allL_ok q_bpX b hb
  rw [Bool.or_eq_true] at hq
  rcases hq with hq | hq
  · have h9 := memB_ok.mp hq
    simp only [List.mem_cons, List.not_mem_nil, or_false] at h9
    omega
  have g := c_runU l (D := D) (al := al) (cy := cy) (rest := rest) (r := r) (vs := [Int32.ofNat p]) (G := fun v w => isB v ∧ ∃ r1, w = tW r1 al cy rest 68 tXv ∧ XR n p r0 (0, O, M, s, f, W) b v r1) (by omega) tXv_ok cC_X sPa_nil (oX_nil) (hq) (fun m0 x pa m hk1 hp1 hkp0 => ?_)
  · simp only [List.map_cons, List.map_nil, sVal, uM0, sI_c] at g
    exact g
  refine ⟨Or.inl (vI_ok hk1), _, rfl, st_nil (XS_kp0 (by omega) hkp0 hX) ?_ (vI_ok hk1)⟩
  show tx0 _ b p = none
  unfold tx0
  rw [if_neg h115, if_neg h40, if_neg h126, if_neg h91, if_neg h101]
theorem LEt_eq {r : sE} {b : Nat} {p : Int32} {vs : List Int32} : (LEt b).map (Option.map (sVal (uM r (p :: vs)) al)) = [some (.ref (al 49)), some (.int (Int32.ofNat b)), some (.int p), some (.int (Int32.ofNat (b - 48)))] := by
  simp only [LEt, List.map_cons, List.map_nil, Option.map_some, sVal, uM0, sI_c]
  rfl
theorem nb_code {k : Nat} (h1 : 1 ≤ k) (h4 : k ≤ 4) : nbO k ∈ ORDS := nb_in k h1 h4
theorem c_st1 (l : Launch) {r0 r : sE} {n p b f : Nat} {O : txT} {M : List (List Nat)} {s : List Nat} {W : Option txT} (hn : 1 ≤ n) (hn5 : n ≤ 5) (hp : p < 80) (hb : b < 127) (hX : XS n p r0 r (1, O, M, s, f, W)) : gMet l D cy al 19 34 (tW r al cy rest 68 tXv) [.ref (al 49), .int (Int32.ofNat b), .int (Int32.ofNat p)] (fun v w => isB v ∧ ∃ r1, w = tW r1 al cy rest 68 tXv ∧ XR n p r0 (1, O, M, s, f, W) b v r1) := by
  obtain ⟨⟨a1, a2, a3⟩, ⟨b1, b2, b3, b4, b5⟩, c1, d1, ⟨e1, e2, e3⟩, f1⟩ := id hX
  replace a1 : r.1 (xP 49 4) = Int32.ofNat 1 := a1
  replace b1 : XO r O := b1
  replace b2 : okT O := b2
  replace b3 : O.length ≤ p := b3
  replace b4 : cbT O + 1 = M.length := b4
  replace c1 : XM n r M := c1
  replace e1 : XW r W := e1
  replace e2 : ∀ T, W = some T → T.length ≤ 81 := e2
  replace e3 : W = none → ∀ u, whyP u → r.1 u = r0.1 u := e3
  have key := gMet_of (l := l) (D := D) (cy := cy) (al := al) (d := 19) (k := 34) (w := tW r al cy rest 68 tXv) (r := uM r [Int32.ofNat p]) (G := (fun v w => isB v ∧ ∃ r1, w = tW r1 al cy rest 68 tXv ∧ XR n p r0 (1, O, M, s, f, W) b v r1)) (allL_ok q_esE b hb) (fun At hFC => ?_)
  · simp only [List.map_cons, List.map_nil, sVal, uM0, sI_c] at key
    exact key
  by_cases hf : 49 ≤ b ∧ b ≤ 53
  · have hqF := allL_ok (allL_ok q_esF n (by omega)) (b - 49) (by omega)
    rw [show Nat.add 49 (b - 49) = b by show 49 + (b - 49) = b; omega, show Nat.succ (Nat.succ (b - 49)) = b - 47 by show b - 49 + 1 + 1 = b - 47; omega] at hqF
    have hqr := allL_ok q_esr b (by omega)
    rw [Bool.and_eq_true] at hqr
    -- the end of the PART
    have fin : ∀ (r2 : sE) (o : List Nat) (W2 : Option txT) (pc nx : Nat), (pc = 27 ∧ nx = 30) ∨ (pc = 41 ∧ nx = 44) → o ∈ ordN n → r2.1 (xP 49 5) = Int32.ofNat n → XO r2 O → XM n r2 M → (XW r2 W2 ∧ (∀ T, W2 = some T → T.length ≤ 81) ∧ (W2 = none → ∀ u, whyP u → r2.1 u = r0.1 u)) → kpC (cRg CHB) 0 68 tXv r0 r2 → txD n (1, O, M, s, f, W) b p = some (txF O M o s f W2) → At pc ((LEt b).map (Option.map (sVal (uM r [Int32.ofNat p]) al))) [.int (Int32.ofNat (ocode o)), .ref (al 49)] (tW r2 al cy rest 68 tXv) := fun r2 o W2 pc nx hpc ho q5 qO qM qW qB hD => by
      have hret : ∀ w2 : va_W, (fun v w => isB v ∧ ∃ r1, w = tW r1 al cy rest 68 tXv ∧ XR n p r0 (1, O, M, s, f, W) b v r1) (some (.int (Int32.ofNat 1))) w2 → At nx ((LEt b).map (Option.map (sVal (uM r [Int32.ofNat p]) al))) [] w2 := fun w2 hG => by
        rcases hpc with ⟨-, rfl⟩ | ⟨-, rfl⟩
        · exact g_ret (v := some (.int (Int32.ofNat 1))) hFC (r := uM r [Int32.ofNat p]) (w := w2) hqr.1 (fun v0 h0 => vI_ok h0) hG
        · exact g_ret (v := some (.int (Int32.ofNat 1))) hFC (r := uM r [Int32.ofNat p]) (w := w2) hqr.2 (fun v0 h0 => vI_ok h0) hG
      have hrow : gRow 34 pc nx 39 := by
        rcases hpc with ⟨rfl, rfl⟩ | ⟨rfl, rfl⟩
        · exact ⟨_, _, rfl, rfl⟩
        · exact ⟨_, _, rfl, rfl⟩
      refine hFC.2 pc nx 39 18 _ [.ref (al 49), .int (Int32.ofNat (ocode o))] [] _ _ hrow rfl (by decide) rfl (gRecv_x (j := 49) (show 49 < 68 by omega) rfl rfl) (c_end l (by omega) hn hn5 qO (by omega) b2 qM ho) (fun v1 w2 h => ?_)
      obtain ⟨rfl, r1, k1, k2, k3, k4, rfl⟩ := h
      exact hret _ ⟨Or.inr rfl, r1, rfl, st_some hD rfl (XS_end (by omega) q5 ⟨b2, b3, b4⟩ qW qB k1 k2 k3 k4)⟩
    by_cases hkn : b - 48 < n
    · rw [Nat.ble_eq_true_of_le (show b - 47 ≤ n by omega)] at hqF
      have g := g_segV hFC (r := r) (vs := [Int32.ofNat p]) (al := al) (cy := cy) (rest := rest) (by omega) tXv_ok cC_X sPa_nil (oX_cons (uMc (by decide) a2) oX_nil) (show esG n b = true from hqF) (fun pc L st pa hk1 hp1 => ?_) (fun v pa hk1 => nomatch hk1)
      · exact g
      obtain ⟨rfl, rfl, rfl⟩ := kAt_ok hk1
      have es : List.map (sVal (uM r [Int32.ofNat p]) al) [.inl (.natCast (Nat.sub b (nat_lit 48))), .inr (.inr (some (nat_lit 49)))] = ([.int (Int32.ofNat (b - 48))] : List Value).reverse ++ [.ref (al 49)] := by
        simp only [List.map_cons, List.map_nil, sVal, sI_c]
        rfl
      rw [es]
      refine hFC.2 24 27 10 18 _ _ _ _ _ ⟨_, _, rfl, rfl⟩ rfl (by show 1 + 0 ≤ 8; omega) rfl (Or.inl rfl) (c_neigh l (by omega) (show 1 ≤ b - 48 by omega) (show b - 48 ≤ 4 by omega)) (fun v1 w2 h => ?_)
      obtain ⟨rfl, rfl⟩ := h
      refine fin r (nbO (b - 48)) W 27 30 (Or.inl ⟨rfl, rfl⟩) (txN_in hn5 (by omega) hkn) a2 b1 c1 ⟨e1, e2, e3⟩ f1 ?_
      show tx1 n _ b p = _
      unfold tx1
      rw [if_pos hf, if_pos hkn]
    · rw [show Nat.ble (b - 47) n = false from Bool.eq_false_iff.mpr (fun h => by have := Nat.le_of_ble_eq_true h; omega)] at hqF
      have g := g_segV hFC (r := r) (vs := [Int32.ofNat p]) (al := al) (cy := cy) (rest := rest) (by omega) tXv_ok cC_X sPa_nil (oX_cons (uMc (by decide) a2) oX_nil) (show esB n b = true from hqF) (fun pc L st pa hk1 hp1 => ?_) (fun v pa hk1 => nomatch hk1)
      · exact g
      obtain ⟨rfl, rfl, rfl⟩ := kAt_ok hk1
      have es : List.map (sVal (uM r [Int32.ofNat p]) al) [.inl (.var (nat_lit 819290)), .inr (.inr (some (nat_lit 49)))] = ([.ref (al 49), .int (Int32.ofNat p)] : List Value).reverse ++ [] := by
        simp only [List.map_cons, List.map_nil, sVal, uM0]
        rfl
      rw [es]
      refine hFC.2 35 38 30 18 _ _ _ _ _ ⟨_, _, rfl, rfl⟩ rfl (by decide) rfl (gRecv_x (j := 49) (show 49 < 68 by omega) rfl rfl) (c_note l (by omega) b1 (by omega) e1 e2) (fun v1 w2 h => ?_)
      obtain ⟨rfl, r2, hkp, k2, rfl⟩ := h
      have g2 := g_pure hFC (r := uM r [Int32.ofNat p]) (al := al) (w := tW r2 al cy rest 68 tXv) sPa_nil (allL_ok q_es2 b (by omega)) (fun pc L st hk => ?_) (fun v hk => nomatch hk)
      · exact g2
      obtain ⟨rfl, rfl, rfl⟩ := kAt_ok hk
      have es2 : List.map (sVal (uM r [Int32.ofNat p]) al) [.inl (.natCast (nat_lit 344865)), .inr (.inr (some (nat_lit 49)))] = [.int (Int32.ofNat (ocode txI)), .ref (al 49)] := by
        rw [ocI]
        simp only [List.map_cons, List.map_nil, sVal, sI_c]
      rw [es2]
      refine fin r2 txI (txW W O p) 41 44 (Or.inr ⟨rfl, rfl⟩) (txI_in hn hn5) ((kpR hkp (vX_49 5 (by omega) (by omega)) ⟨by first | omega | (unfold xP; omega), by first | omega | (unfold xP; omega), trivial⟩).trans a2) (XO_st (O := O) hkp (by omega) ⟨by first | omega | (unfold xP; omega), by first | omega | (unfold xP; omega), trivial⟩ (fun i hi => ⟨⟨by first | omega | (unfold xP; omega), by first | omega | (unfold xP; omega), trivial⟩, ⟨by first | omega | (unfold xP; omega), by first | omega | (unfold xP; omega), trivial⟩⟩) b1) (XM_st hkp ⟨by first | omega | (unfold xP; omega), by first | omega | (unfold xP; omega), trivial⟩ (fun i hi => ⟨by first | omega | (unfold xP; omega), by first | omega | (unfold xP; omega), trivial⟩) c1) ⟨k2, fun T hT => ?_, fun h => nomatch h⟩ (kpC_trans f1 (CHB_w hkp ⟨⟨by omega, by omega⟩, ⟨by omega, by omega⟩, trivial⟩)) ?_
      · cases W with
        | none =>
          cases hT
          show O.length + 1 ≤ 81
          omega
        | some T0 =>
          cases hT
          exact e2 _ rfl
      · show tx1 n _ b p = _
        unfold tx1
        rw [if_pos hf, if_neg hkn]
  · have hq := allL_ok q_esX b hb
    rw [Bool.or_eq_true] at hq
    rcases hq with hq | hq
    · rw [Bool.and_eq_true] at hq
      exact absurd ⟨Nat.le_of_ble_eq_true hq.1, Nat.le_of_ble_eq_true hq.2⟩ hf
    have g := g_segV hFC (r := r) (vs := [Int32.ofNat p]) (al := al) (cy := cy) (rest := rest) (by omega) tXv_ok cC_X sPa_nil oX_nil hq (fun pc L st pa hk1 hp1 => nomatch hk1) (fun v pa hk1 hp1 => ?_)
    · exact g
    refine ⟨Or.inl (vI_ok hk1), r, rfl, st_nil hX ?_ (vI_ok hk1)⟩
    show tx1 n _ b p = none
    unfold tx1
    rw [if_neg hf]
theorem c_st2 (l : Launch) {r0 r : sE} {n p b f : Nat} {O : txT} {M : List (List Nat)} {s : List Nat} {W : Option txT} (hn : 1 ≤ n) (hn5 : n ≤ 5) (hp : p < 80) (hb : b < 127) (hX : XS n p r0 r (2, O, M, s, f, W)) : gMet l D cy al 19 36 (tW r al cy rest 68 tXv) [.ref (al 49), .int (Int32.ofNat b), .int (Int32.ofNat p)] (fun v w => isB v ∧ ∃ r1, w = tW r1 al cy rest 68 tXv ∧ XR n p r0 (2, O, M, s, f, W) b v r1) := by
  obtain ⟨⟨a1, a2, a3⟩, ⟨b1, b2, b3, b4, b5⟩, c1, d1, ⟨e1, e2, e3⟩, f1⟩ := id hX
  replace a1 : r.1 (xP 49 4) = Int32.ofNat 2 := a1
  replace b1 : XO r O := b1
  replace b2 : okT O := b2
  replace b3 : O.length ≤ p := b3
  replace b4 : cbT O + 1 = M.length := b4
  replace c1 : XM n r M := c1
  replace e1 : XW r W := e1
  replace e2 : ∀ T, W = some T → T.length ≤ 81 := e2
  replace e3 : W = none → ∀ u, whyP u → r.1 u = r0.1 u := e3
  obtain ⟨dC, dF⟩ := d1 rfl
  replace dC : XC n r s f := dC
  replace dF : f ≤ p := dF
  have key := gMet_of (l := l) (D := D) (cy := cy) (al := al) (d := 19) (k := 36) (w := tW r al cy rest 68 tXv) (r := uM r [Int32.ofNat p]) (G := (fun v w => isB v ∧ ∃ r1, w = tW r1 al cy rest 68 tXv ∧ XR n p r0 (2, O, M, s, f, W) b v r1)) (allL_ok q_gcE b hb) (fun At hFC => ?_)
  · simp only [List.map_cons, List.map_nil, sVal, uM0, sI_c] at key
    exact key
  by_cases hf : 49 ≤ b ∧ b ≤ 53
  · have hqF := allL_ok q_gcF (b - 49) (by omega)
    rw [show Nat.add 49 (b - 49) = b by show 49 + (b - 49) = b; omega, show Nat.succ (b - 49) = b - 48 by show b - 49 + 1 = b - 48; omega] at hqF
    have hqr := allL_ok q_gcr b (by omega)
    rw [Bool.and_eq_true, Bool.and_eq_true] at hqr
    have g := g_segV hFC (r := r) (vs := [Int32.ofNat p]) (al := al) (cy := cy) (rest := rest) (by omega) tXv_ok cC_X sPa_nil oX_nil hqF (fun pc L st pa hk1 hp1 => ?_) (fun v pa hk1 => nomatch hk1)
    · exact g
    obtain ⟨rfl, rfl, rfl⟩ := kAt_ok hk1
    have es : List.map (sVal (uM r [Int32.ofNat p]) al) [.inl (.natCast (b - 48)), .inr (.inr (some (nat_lit 49)))] = ([.ref (al 49), .int (Int32.ofNat (b - 48))] : List Value).reverse ++ [] := by
      simp only [List.map_cons, List.map_nil, sVal, sI_c]
      rfl
    rw [es]
    by_cases hw : n < b - 48 ∨ b - 48 ∈ s
    · refine hFC.2 12 15 37 18 _ _ _ _ _ ⟨_, _, rfl, rfl⟩ rfl (by decide) rfl (gRecv_x (j := 49) (show 49 < 68 by omega) rfl rfl) (c_takeB l (by omega) hn hn5 (by omega) (by omega) hw a2 dC) (fun v1 w2 h => ?_)
      obtain ⟨rfl, r2, hk2, hf1, rfl⟩ := h
      have g2 := g_pure hFC (r := uM r [Int32.ofNat p]) (al := al) (w := tW r2 al cy rest 68 tXv) sPa_nil (allL_ok q_gc0 b (by omega)) (fun pc L st hk => ?_) (fun v hk => nomatch hk)
      · simp only [List.map_cons (l := []), List.map_nil, sVal, sI_c] at g2
        exact g2
      obtain ⟨rfl, rfl, rfl⟩ := kAt_ok hk
      have es2 : List.map (sVal (uM r [Int32.ofNat p]) al) [.inl (.var (nat_lit 819290)), .inr (.inr (some (nat_lit 49)))] = ([.ref (al 49), .int (Int32.ofNat p)] : List Value).reverse ++ [] := by
        simp only [List.map_cons, List.map_nil, sVal, uM0]
        rfl
      rw [es2]
      have hO2 : XO r2 O := XO_st hk2 (by omega) ⟨by first | omega | (unfold xP; omega), trivial⟩ (fun i hi => ⟨⟨by first | omega | (unfold xP; omega), trivial⟩, ⟨by first | omega | (unfold xP; omega), trivial⟩⟩) b1
      have hW2 : XW r2 W := XW_st hk2 e2 ⟨by first | omega | (unfold xP; omega), trivial⟩ ⟨by first | omega | (unfold xP; omega), trivial⟩ (fun i hi => ⟨⟨by first | omega | (unfold xP; omega), trivial⟩, ⟨by first | omega | (unfold xP; omega), trivial⟩⟩) e1
      refine hFC.2 20 23 30 18 _ _ _ _ _ ⟨_, _, rfl, rfl⟩ rfl (by decide) rfl (gRecv_x (j := 49) (show 49 < 68 by omega) rfl rfl) (c_note l (by omega) hO2 (by omega) hW2 e2) (fun v1 w2 h => ?_)
      obtain ⟨rfl, r1, kk, k2, rfl⟩ := h
      have hkp : kpC (cRg [(200712, 200712), (200710, 200710), (204800, 213072)]) 0 68 tXv r r1 := kpC_trans (chR_w (fun x hx => by
        rw [List.mem_singleton] at hx
        subst hx
        exact ⟨(200712, 200712), by simp, Nat.le_refl _, Nat.le_refl _⟩) hk2) (chR_w (fun x hx => by
        simp only [List.mem_cons, List.not_mem_nil, or_false] at hx
        rcases hx with rfl | rfl
        · exact ⟨(200710, 200710), by simp, Nat.le_refl _, Nat.le_refl _⟩
        · exact ⟨(204800, 213072), by simp, Nat.le_refl _, Nat.le_refl _⟩) kk)
      have k1 : r1.1 (xP 49 8) = Int32.ofNat (f + 1) := (kpR kk (vX_49 8 (by omega) (by omega)) ⟨by first | omega | (unfold xP; omega), by first | omega | (unfold xP; omega), trivial⟩).trans hf1
      refine g_ret (v := some (.int (Int32.ofNat 1))) hFC (r := uM r [Int32.ofNat p]) (w := tW r1 al cy rest 68 tXv) hqr.2.1 (fun v0 h0 => vI_ok h0) ⟨Or.inr rfl, r1, rfl, st_some (σ1 := (2, O, M, s, f + 1, txW W O p)) ?_ rfl ⟨⟨(kpR hkp (vX_49 4 (by omega) (by omega)) ⟨by first | omega | (unfold xP; omega), by first | omega | (unfold xP; omega), by first | omega | (unfold xP; omega), trivial⟩).trans a1, (kpR hkp (vX_49 5 (by omega) (by omega)) ⟨by first | omega | (unfold xP; omega), by first | omega | (unfold xP; omega), by first | omega | (unfold xP; omega), trivial⟩).trans a2, by simp⟩, ⟨XO_st (O := O) hkp (by omega) ⟨by first | omega | (unfold xP; omega), by first | omega | (unfold xP; omega), by first | omega | (unfold xP; omega), trivial⟩ (fun i hi => ⟨⟨by first | omega | (unfold xP; omega), by first | omega | (unfold xP; omega), by first | omega | (unfold xP; omega), trivial⟩, ⟨by first | omega | (unfold xP; omega), by first | omega | (unfold xP; omega), by first | omega | (unfold xP; omega), trivial⟩⟩) b1, b2, Nat.le_succ_of_le b3, b4, fun q => neQ (a := 2) (b := 3) rfl q⟩, XM_st hkp ⟨by first | omega | (unfold xP; omega), by first | omega | (unfold xP; omega), by first | omega | (unfold xP; omega), trivial⟩ (fun i hi => ⟨by first | omega | (unfold xP; omega), by first | omega | (unfold xP; omega), by first | omega | (unfold xP; omega), trivial⟩) c1, fun _ => ⟨⟨dC.1, (kpR hkp (vX_49 7 (by omega) (by omega)) ⟨by first | omega | (unfold xP; omega), by first | omega | (unfold xP; omega), by first | omega | (unfold xP; omega), trivial⟩).trans dC.2.1, k1, (kpR hkp (vX_49 9 (by omega) (by omega)) ⟨by first | omega | (unfold xP; omega), by first | omega | (unfold xP; omega), by first | omega | (unfold xP; omega), trivial⟩).trans dC.2.2.2.1, (kpR hkp (vX_49 10 (by omega) (by omega)) ⟨by first | omega | (unfold xP; omega), by first | omega | (unfold xP; omega), by first | omega | (unfold xP; omega), trivial⟩).trans dC.2.2.2.2.1, (kpR hkp (vX_49 11 (by omega) (by omega)) ⟨by first | omega | (unfold xP; omega), by first | omega | (unfold xP; omega), by first | omega | (unfold xP; omega), trivial⟩).trans dC.2.2.2.2.2⟩, Nat.succ_le_succ dF⟩, ⟨k2, fun T hT => ?_, fun h => nomatch h⟩, kpC_trans f1 (CHB_w hkp ⟨⟨by omega, by omega⟩, ⟨by omega, by omega⟩, ⟨by omega, by omega⟩, trivial⟩)⟩⟩
      · show tx2 n _ b p = _
        unfold tx2
        rw [if_pos hf, if_pos hw]
      · cases W with
        | none =>
          cases hT
          show O.length + 1 ≤ 81
          omega
        | some T0 =>
          cases hT
          exact e2 _ rfl
    · have hw1 : b - 48 ≤ n := Nat.le_of_not_lt (fun h => hw (Or.inl h))
      have hw2 : b - 48 ∉ s := fun h => hw (Or.inr h)
      refine hFC.2 12 15 37 18 _ _ _ _ _ ⟨_, _, rfl, rfl⟩ rfl (by decide) rfl (gRecv_x (j := 49) (show 49 < 68 by omega) rfl rfl) (c_takeG l (by omega) hn hn5 (by omega) hw1 hw2 a2 dC) (fun v1 w2 h => ?_)
      obtain ⟨rfl, r1, hkp, k1, rfl⟩ := h
      have g3 := g_ret (v := some (.int (Int32.ofNat 1))) hFC (r := uM r [Int32.ofNat p]) (w := tW r1 al cy rest 68 tXv) hqr.1 (fun v0 h0 => vI_ok h0) ⟨Or.inr rfl, r1, rfl, st_some (σ1 := (2, O, M, s ++ [b - 48], f + 1, W)) ?_ rfl ⟨⟨(kpR hkp (vX_49 4 (by omega) (by omega)) ⟨by first | omega | (unfold xP; omega), trivial⟩).trans a1, (kpR hkp (vX_49 5 (by omega) (by omega)) ⟨by first | omega | (unfold xP; omega), trivial⟩).trans a2, by simp⟩, ⟨XO_st (O := O) hkp (by omega) ⟨by first | omega | (unfold xP; omega), trivial⟩ (fun i hi => ⟨⟨by first | omega | (unfold xP; omega), trivial⟩, ⟨by first | omega | (unfold xP; omega), trivial⟩⟩) b1, b2, Nat.le_succ_of_le b3, b4, fun q => neQ (a := 2) (b := 3) rfl q⟩, XM_st hkp ⟨by first | omega | (unfold xP; omega), trivial⟩ (fun i hi => ⟨by first | omega | (unfold xP; omega), trivial⟩) c1, fun _ => ⟨k1, Nat.succ_le_succ dF⟩, ⟨XW_st hkp e2 ⟨by first | omega | (unfold xP; omega), trivial⟩ ⟨by first | omega | (unfold xP; omega), trivial⟩ (fun i hi => ⟨⟨by first | omega | (unfold xP; omega), trivial⟩, ⟨by first | omega | (unfold xP; omega), trivial⟩⟩) e1, e2, fun hw u hu => (kpR hkp (vX_w hu) (by unfold whyP at hu; exact ⟨by first | omega | (unfold xP; omega), trivial⟩)).trans (e3 hw u hu)⟩, kpC_trans f1 (CHB_w hkp ⟨⟨by omega, by omega⟩, trivial⟩)⟩⟩
      · simp only [List.map_cons (l := []), List.map_nil, sVal, sI_c] at g3
        exact g3
      show tx2 n _ b p = _
      unfold tx2
      rw [if_pos hf, if_neg hw]
  by_cases h41 : b = 41
  · subst h41
    have hqr := allL_ok q_gcr 41 (by omega)
    rw [Bool.and_eq_true, Bool.and_eq_true] at hqr
    have hlt : sI (uM r [Int32.ofNat p]) (.var (nat_lit 200712)) < sI (uM r [Int32.ofNat p]) (.natCast (nat_lit 2)) ↔ f < 2 := by
      rw [uMv (by decide), sI_c, show r.1 200712 = Int32.ofNat f from dC.2.2.1, Int32.lt_iff_toInt_lt]
      simp only [Int32.toInt_ofNat', Int.bmod_def, show ((Int32.size : Nat) : Int) = 4294967296 from rfl]
      show _ < (if ((2 : Nat) : Int) % 4294967296 < (4294967296 + 1) / 2 then _ else _) ↔ _
      omega
    by_cases h2 : 2 ≤ f
    · have g := g_segV hFC (r := r) (vs := [Int32.ofNat p]) (al := al) (cy := cy) (rest := rest) (by omega) tXv_ok cC_X (sPa_cons.mpr ⟨(sKd_f (e := false)).mpr (fun h => absurd (hlt.mp h) (by omega)), sPa_nil⟩) oX_nil q_gcT (fun pc L st pa hk1 hp1 => ?_) (fun v pa hk1 => nomatch hk1)
      · exact g
      obtain ⟨rfl, rfl, rfl⟩ := kAt_ok hk1
      have es : List.map (sVal (uM r [Int32.ofNat p]) al) [.inl (.var (nat_lit 200711)), .inr (.inr (some (nat_lit 49)))] = ([.ref (al 49), .int (Int32.ofNat (ocode (txC s)))] : List Value).reverse ++ [] := by
        simp only [List.map_cons, List.map_nil, sVal]
        rw [uMv (by decide), show r.1 200711 = Int32.ofNat (ocode (txC s)) from dC.2.1]
        rfl
      rw [es]
      refine hFC.2 44 47 39 18 _ _ _ _ _ ⟨_, _, rfl, rfl⟩ rfl (by decide) rfl (gRecv_x (j := 49) (show 49 < 68 by omega) rfl rfl) (c_end l (by omega) hn hn5 b1 (by omega) b2 c1 (sq_ord hn hn5 dC.1.1 dC.1.2)) (fun v1 w2 h => ?_)
      obtain ⟨rfl, r1, k1, k2, k3, k4, rfl⟩ := h
      refine g_ret (v := some (.int (Int32.ofNat 1))) hFC (r := uM r [Int32.ofNat p]) (w := tW r1 al cy rest 68 tXv) hqr.2.2 (fun v0 h0 => vI_ok h0) ⟨Or.inr rfl, r1, rfl, st_some (σ1 := txF O M (txC s) s f W) ?_ rfl (XS_end (by omega) a2 ⟨b2, b3, b4⟩ ⟨e1, e2, e3⟩ f1 k1 k2 k3 k4)⟩
      show tx2 n _ 41 p = _
      unfold tx2
      rw [if_neg (by decide), if_pos ⟨rfl, h2⟩]
    · have g := g_segV hFC (r := r) (vs := [Int32.ofNat p]) (al := al) (cy := cy) (rest := rest) (by omega) tXv_ok cC_X (sPa_cons.mpr ⟨(sKd_t (e := false)).mpr (hlt.mpr (by omega)), sPa_nil⟩) oX_nil q_gcU (fun pc L st pa hk1 hp1 => nomatch hk1) (fun v pa hk1 hp1 => ?_)
      · exact g
      refine ⟨Or.inl (vI_ok hk1), r, rfl, st_nil hX ?_ (vI_ok hk1)⟩
      show tx2 n _ 41 p = none
      unfold tx2
      rw [if_neg (by decide), if_neg (fun h => h2 h.2)]
  have hq := allL_ok q_gcX b hb
  rw [Bool.or_eq_true, Bool.or_eq_true, Bool.and_eq_true] at hq
  rcases hq with (hq | hq) | hq
  · exact absurd (Nat.eq_of_beq_eq_true hq) h41
  · exact absurd ⟨Nat.le_of_ble_eq_true hq.1, Nat.le_of_ble_eq_true hq.2⟩ hf
  have g := g_segV hFC (r := r) (vs := [Int32.ofNat p]) (al := al) (cy := cy) (rest := rest) (by omega) tXv_ok cC_X sPa_nil oX_nil hq (fun pc L st pa hk1 hp1 => nomatch hk1) (fun v pa hk1 hp1 => ?_)
  · exact g
  refine ⟨Or.inl (vI_ok hk1), r, rfl, st_nil hX ?_ (vI_ok hk1)⟩
  show tx2 n _ b p = none
  unfold tx2
  rw [if_neg hf, if_neg (fun h => h41 h.1)]
theorem c_st3 (l : Launch) {r0 r : sE} {n p b f : Nat} {O : txT} {M : List (List Nat)} {s : List Nat} {W : Option txT} (hn : 1 ≤ n) (hn5 : n ≤ 5) (hp : p < 80) (hb : b < 127) (hX : XS n p r0 r (3, O, M, s, f, W)) : gMet l D cy al 19 38 (tW r al cy rest 68 tXv) [.ref (al 49), .int (Int32.ofNat b)] (fun v w => isB v ∧ ∃ r1, w = tW r1 al cy rest 68 tXv ∧ XR n p r0 (3, O, M, s, f, W) b v r1) := by
  obtain ⟨⟨a1, a2, a3⟩, ⟨b1, b2, b3, b4, b5⟩, c1, d1, ⟨e1, e2, e3⟩, f1⟩ := id hX
  replace a1 : r.1 (xP 49 4) = Int32.ofNat 3 := a1
  replace b1 : XO r O := b1
  replace b2 : okT O := b2
  replace b3 : O.length ≤ p := b3
  replace b4 : cbT O + 1 = M.length := b4
  replace c1 : XM n r M := c1
  replace e1 : XW r W := e1
  replace e2 : ∀ T, W = some T → T.length ≤ 81 := e2
  replace e3 : W = none → ∀ u, whyP u → r.1 u = r0.1 u := e3
  have key := gMet_of (l := l) (D := D) (cy := cy) (al := al) (d := 19) (k := 38) (w := tW r al cy rest 68 tXv) (r := uM r []) (G := (fun v w => isB v ∧ ∃ r1, w = tW r1 al cy rest 68 tXv ∧ XR n p r0 (3, O, M, s, f, W) b v r1)) (allL_ok q_bhE b hb) (fun At hFC => ?_)
  · simp only [List.map_cons, List.map_nil, sVal, sI_c] at key
    exact key
  by_cases h42 : b = 42
  · subst h42
    have g := g_segU hFC (r := r) (vs := []) (al := al) (cy := cy) (rest := rest) (by omega) tXv_ok cC_X sPa_nil oX_nil q_bhS (fun m0 pc L st pa m hk2 => nomatch hk2) (fun m0 v pa m hk1 hp1 hkp0 => ?_)
    · exact g
    rw [Bool.and_eq_true] at hk1
    have hkp : kpC (cRg [(200708, 200708)]) 0 68 tXv r _ := hkp0
    exact ⟨Or.inr (vI_ok hk1.1), _, rfl, st_some (σ1 := (0, O, M, s, f, W)) rfl (vI_ok hk1.1) ⟨⟨eU_c (by first | decide | omega) hk1.2, (kpR hkp (vX_49 5 (by omega) (by omega)) ⟨by first | omega | (unfold xP; omega), trivial⟩).trans a2, by simp⟩, ⟨XO_st (O := O) hkp (by omega) ⟨by first | omega | (unfold xP; omega), trivial⟩ (fun i hi => ⟨⟨by first | omega | (unfold xP; omega), trivial⟩, ⟨by first | omega | (unfold xP; omega), trivial⟩⟩) b1, b2, Nat.le_succ_of_le b3, b4, fun q => neQ (a := 0) (b := 3) rfl q⟩, XM_st hkp ⟨by first | omega | (unfold xP; omega), trivial⟩ (fun i hi => ⟨by first | omega | (unfold xP; omega), trivial⟩) c1, fun q => neQ (a := 0) (b := 2) rfl q, ⟨XW_st hkp e2 ⟨by first | omega | (unfold xP; omega), trivial⟩ ⟨by first | omega | (unfold xP; omega), trivial⟩ (fun i hi => ⟨⟨by first | omega | (unfold xP; omega), trivial⟩, ⟨by first | omega | (unfold xP; omega), trivial⟩⟩) e1, e2, fun hw u hu => (kpR hkp (vX_w hu) (by unfold whyP at hu; exact ⟨by first | omega | (unfold xP; omega), trivial⟩)).trans (e3 hw u hu)⟩, kpC_trans f1 (CHB_w hkp ⟨⟨by omega, by omega⟩, trivial⟩)⟩⟩
  by_cases h93 : b = 93
  · subst h93
    obtain ⟨m, M2, rfl⟩ : ∃ m M2, M = m :: M2 := by
      cases M with
      | nil => exact absurd c1.1.1 (by simp)
      | cons m M2 => exact ⟨m, M2, rfl⟩
    cases M2 with
    | nil =>
      have hbr : r.1 (xP 49 3) = Int32.ofNat 0 := c1.2.2.1
      have g := g_segV hFC (r := r) (vs := []) (al := al) (cy := cy) (rest := rest) (by omega) tXv_ok cC_X sPa_nil (oX_cons (uMc (by decide) hbr) oX_nil) q_bh0 (fun pc L st pa hk1 hp1 => nomatch hk1) (fun v pa hk1 hp1 => ?_)
      · exact g
      exact ⟨Or.inl (vI_ok hk1), r, rfl, st_nil hX rfl (vI_ok hk1)⟩
    | cons m2 M3 =>
      have hl4 : M3.length < 3 := by have := c1.1.2; simp at this; omega
      obtain ⟨x, O2, rfl⟩ : ∃ x O2, O = x :: O2 := by
        cases O with
        | nil => exact absurd b4 (by simp [cbT])
        | cons x O2 => exact ⟨x, O2, rfl⟩
      have hx2 : x.1 = 2 := by
        rcases b2 x List.mem_cons_self with h | h
        · exact h
        · exact absurd h (b5 rfl)
      have b3' : O2.length + 1 ≤ p := b3
      have hbr : r.1 (xP 49 3) = Int32.ofNat (Nat.succ M3.length) := c1.2.2.1
      have hsz : r.1 (xP 53 0) = Int32.ofNat (Nat.succ O2.length) := b1.1
      have hmv : r.1 (229377 + M3.length) = Int32.ofNat (ocode m) := by
        have := c1.2.2.2.1
        rw [← this]
        exact congrArg r.1 (by show 229377 + M3.length = xP 56 0 + (M3.length + 1); unfold xP; omega)
      have g := g_segU hFC (r := r) (vs := []) (al := al) (cy := cy) (rest := rest) (by omega) tXv_ok cC_X sPa_nil (oX_cons (uMc (by decide) hbr) (oX_cons (uMc (by decide) hsz) oX_nil)) (allL_ok (allL_ok q_bhQ M3.length hl4) O2.length (by omega)) (fun m0 pc L st pa m9 hk2 hp2 hkp0 => ?_) (fun m0 v pa m9 hk1 => nomatch hk1)
      · exact g
      simp only [Bool.and_eq_true] at hk2
      obtain ⟨k0, k1, k2⟩ := hk2
      obtain ⟨rfl, rfl, rfl⟩ := kAt_ok k0
      have hkp : kpC (cRg [(200707, 200707), (217088, 217088)]) 0 68 tXv r _ := hkp0
      have k1' := eU_c (b := 0) (r := r) (vs := []) (by first | decide | omega) k1
      have k2' := eU_c (b := 0) (r := r) (vs := []) (by first | decide | omega) k2
      generalize eOf 0 (uM r []) m9 = r2 at hkp k1' k2'
      have es : List.map (sVal (uM r []) al) [.inl (.var (Nat.add (nat_lit 229377) M3.length)), .inr (.inr (some (nat_lit 49)))] = ([.ref (al 49), .int (Int32.ofNat (ocode m))] : List Value).reverse ++ [] := by
        simp only [List.map_cons, List.map_nil, sVal]
        rw [uMv (show Nat.add 229377 M3.length < 819290 by show 229377 + M3.length < 819290; omega), show Nat.add 229377 M3.length = 229377 + M3.length from rfl, hmv]
        rfl
      have eL : List.map (Option.map (sVal (uM r []) al)) (LBh (nat_lit 93) (some (.inl (.var (Nat.add (nat_lit 229377) M3.length))))) = List.map (Option.map (sVal (uM r [Int32.ofNat (ocode m)]) al)) (LBh (nat_lit 93) (some (.inl (.var (nat_lit 819290))))) := by
        simp only [LBh, List.map_cons, List.map_nil, Option.map_some, sVal, uM0, sI_c]
        rw [uMv (show Nat.add 229377 M3.length < 819290 by show 229377 + M3.length < 819290; omega), show Nat.add 229377 M3.length = 229377 + M3.length from rfl, hmv]
      rw [es, eL]
      have qO : XO r2 O2 := ⟨k2', rwX_st hkp (by omega) (fun i hi => ⟨⟨by first | omega | (unfold xP; omega), by first | omega | (unfold xP; omega), trivial⟩, ⟨by first | omega | (unfold xP; omega), by first | omega | (unfold xP; omega), trivial⟩⟩) b1.2.2⟩
      have qM : XM n r2 (m2 :: M3) := ⟨⟨by simp, by simp; omega⟩, fun y hy => c1.2.1 y (List.mem_cons_of_mem _ hy), k1', rwM_kp hkp (by simp; omega) (fun i hi => ⟨by first | omega | (unfold xP; omega), by first | omega | (unfold xP; omega), trivial⟩) c1.2.2.2.2⟩
      have qT : okT O2 := fun y hy => b2 y (List.mem_cons_of_mem _ hy)
      have hmo : m ∈ ordN n := c1.2.1 m List.mem_cons_self
      refine hFC.2 61 64 39 18 _ _ _ _ _ ⟨_, _, rfl, rfl⟩ rfl (by decide) rfl (gRecv_x (j := 49) (show 49 < 68 by omega) rfl rfl) (c_end l (by omega) hn hn5 qO (by omega) qT qM hmo) (fun v1 w2 h => ?_)
      obtain ⟨rfl, r1, q1, q2, q3, q4, rfl⟩ := h
      have b4' : cbT O2 + 1 = (m2 :: M3).length := by
        obtain ⟨t, pp⟩ := x
        obtain rfl : t = 2 := hx2
        rw [cb2] at b4
        simp at b4 ⊢
        omega
      exact g_ret (v := some (.int (Int32.ofNat 1))) hFC (r := uM r [Int32.ofNat (ocode m)]) (w := tW r1 al cy rest 68 tXv) q_bhr (fun v0 h0 => vI_ok h0) ⟨Or.inr rfl, r1, rfl, st_some (σ1 := txF O2 (m2 :: M3) m s f W) rfl rfl (XS_end (p := p) (by omega) ((kpR hkp (vX_49 5 (by omega) (by omega)) ⟨by first | omega | (unfold xP; omega), by first | omega | (unfold xP; omega), trivial⟩).trans a2) ⟨qT, by omega, b4'⟩ ⟨XW_st hkp e2 ⟨by first | omega | (unfold xP; omega), by first | omega | (unfold xP; omega), trivial⟩ ⟨by first | omega | (unfold xP; omega), by first | omega | (unfold xP; omega), trivial⟩ (fun i hi => ⟨⟨by first | omega | (unfold xP; omega), by first | omega | (unfold xP; omega), trivial⟩, ⟨by first | omega | (unfold xP; omega), by first | omega | (unfold xP; omega), trivial⟩⟩) e1, e2, fun hw u hu => (kpR hkp (vX_w hu) (by unfold whyP at hu; exact ⟨by first | omega | (unfold xP; omega), by first | omega | (unfold xP; omega), trivial⟩)).trans (e3 hw u hu)⟩ (kpC_trans f1 (CHB_w hkp ⟨⟨by omega, by omega⟩, ⟨by omega, by omega⟩, trivial⟩)) q1 q2 q3 q4)⟩
  have hq := allL_ok q_bhX b hb
  rw [Bool.or_eq_true] at hq
  rcases hq with hq | hq
  · have h9 := memB_ok.mp hq
    simp only [List.mem_cons, List.not_mem_nil, or_false] at h9
    omega
  have g := g_segV hFC (r := r) (vs := []) (al := al) (cy := cy) (rest := rest) (by omega) tXv_ok cC_X sPa_nil oX_nil hq (fun pc L st pa hk1 hp1 => nomatch hk1) (fun v pa hk1 hp1 => ?_)
  · exact g
  refine ⟨Or.inl (vI_ok hk1), r, rfl, st_nil hX ?_ (vI_ok hk1)⟩
  show tx3 _ b = none
  unfold tx3
  rw [if_neg h42, if_neg h93]
end RY
