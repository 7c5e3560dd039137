/-! 98zc: read: a PART, a TEXT, model (by wip/whole/mk98zc.py) -/
noncomputable def LP0 : sL := [some (.inr (.inr (some (nat_lit 0)))), some (.inl (.var (nat_lit 819290))), none, none, none]
noncomputable def LPq (c : Nat) : sL := [some (.inr (.inr (some (nat_lit 0)))), some (.inl (.var (nat_lit 819290))), some (.inl (.natCast c)), some (.inl (.var (nat_lit 819291))), none]
noncomputable def LPp (c : Nat) : sL := [some (.inr (.inr (some (nat_lit 0)))), some (.inl (.var (nat_lit 819290))), some (.inl (.natCast c)), some (.inl (.var (nat_lit 282666))), none]
theorem q_ptE : sEnt [.inr (.inr (some (nat_lit 0))), .inl (.var (nat_lit 819290))] (PG (nat_lit 218)).2.1 (fun L => eqL eqO L LP0) = true := by decide +kernel
noncomputable def LPn : sL := [none, none, none, none, none]
theorem q_pt0 : sx PG (nat_lit 30) (nat_lit 6) (PG (nat_lit 218)) (fun pc => Nat.beq pc (nat_lit 1)) (fun pc L st _ m => Bool.and (eqL eqC m []) (kAt (nat_lit 1) LP0 [.inr (.inr (some (nat_lit 0)))] pc L st)) (fun _ _ m => Bool.and (eqL eqC m []) false) (nat_lit 0) LP0 [] [] [] = true := by decide +kernel
theorem q_pte : sBeg (nat_lit 69) (nat_lit 45) tMv (memB [(nat_lit 0), (nat_lit 39)]) [] (fun m0 => sx PG (nat_lit 2000) (nat_lit 6) (PG (nat_lit 218)) (fun pc => memB [(nat_lit 53), (nat_lit 161), (nat_lit 184), (nat_lit 233), (nat_lit 260)] pc) (fun pc L st _ m => Bool.and (sKC (cRg [((nat_lit 282666), (nat_lit 282666)), ((nat_lit 442369), (nat_lit 442373))]) (nat_lit 69) (nat_lit 45) tMv (memB [(nat_lit 0), (nat_lit 39)]) m0 m) false) (fun v _ m => Bool.and (sKC (cRg [((nat_lit 282666), (nat_lit 282666)), ((nat_lit 442369), (nat_lit 442373))]) (nat_lit 69) (nat_lit 45) tMv (memB [(nat_lit 0), (nat_lit 39)]) m0 m) (Bool.and (eqO v (some (.inl (.natCast (nat_lit 1))))) (Bool.and (isE m (nat_lit 0) (nat_lit 42) (.pow (.mul (.var (nat_lit 282666)) (.natCast (nat_lit 1))) (nat_lit 0))) (allL 5 (fun i => isE m (nat_lit 39) (Nat.succ i) (.natCast (Nat.succ i))))))) (nat_lit 4) LP0 [.inl (.natCast (nat_lit 101))] [] m0) = true := by decide +kernel
theorem q_pts : sBeg (nat_lit 69) (nat_lit 45) tMv (memB [(nat_lit 0)]) [] (fun m0 => sx PG (nat_lit 2000) (nat_lit 6) (PG (nat_lit 218)) (fun pc => memB [(nat_lit 53), (nat_lit 161), (nat_lit 184), (nat_lit 233), (nat_lit 260)] pc) (fun pc L st _ m => Bool.and (sKC (cRg [((nat_lit 282666), (nat_lit 282666))]) (nat_lit 69) (nat_lit 45) tMv (memB [(nat_lit 0)]) m0 m) (Bool.and (kAt (nat_lit 53) (LPp (nat_lit 115)) [.inr (.inr (some (nat_lit 0)))] pc L st) (isE m (nat_lit 0) (nat_lit 42) (.pow (.mul (.var (nat_lit 282666)) (.natCast (nat_lit 1))) (nat_lit 0))))) (fun v _ m => Bool.and (sKC (cRg [((nat_lit 282666), (nat_lit 282666))]) (nat_lit 69) (nat_lit 45) tMv (memB [(nat_lit 0)]) m0 m) false) (nat_lit 4) LP0 [.inl (.natCast (nat_lit 115))] [] m0) = true := by decide +kernel
theorem q_ptc : sBeg (nat_lit 69) (nat_lit 45) tMv (memB [(nat_lit 0)]) [] (fun m0 => sx PG (nat_lit 2000) (nat_lit 6) (PG (nat_lit 218)) (fun pc => memB [(nat_lit 53), (nat_lit 161), (nat_lit 184), (nat_lit 233), (nat_lit 260)] pc) (fun pc L st _ m => Bool.and (sKC (cRg [((nat_lit 282666), (nat_lit 282666))]) (nat_lit 69) (nat_lit 45) tMv (memB [(nat_lit 0)]) m0 m) (Bool.and (kAt (nat_lit 161) (LPp (nat_lit 40)) [.inr (.inr (some (nat_lit 0)))] pc L st) (isE m (nat_lit 0) (nat_lit 42) (.pow (.mul (.var (nat_lit 282666)) (.natCast (nat_lit 1))) (nat_lit 0))))) (fun v _ m => Bool.and (sKC (cRg [((nat_lit 282666), (nat_lit 282666))]) (nat_lit 69) (nat_lit 45) tMv (memB [(nat_lit 0)]) m0 m) false) (nat_lit 4) LP0 [.inl (.natCast (nat_lit 40))] [] m0) = true := by decide +kernel
theorem q_ptt : sBeg (nat_lit 69) (nat_lit 45) tMv (memB [(nat_lit 0)]) [] (fun m0 => sx PG (nat_lit 2000) (nat_lit 6) (PG (nat_lit 218)) (fun pc => memB [(nat_lit 53), (nat_lit 161), (nat_lit 184), (nat_lit 233), (nat_lit 260)] pc) (fun pc L st _ m => Bool.and (sKC (cRg [((nat_lit 282666), (nat_lit 282666))]) (nat_lit 69) (nat_lit 45) tMv (memB [(nat_lit 0)]) m0 m) (Bool.and (kAt (nat_lit 184) (LPp (nat_lit 126)) [.inl (.var (nat_lit 282666)), .inl (.natCast (nat_lit 3)), .inr (.inr (some (nat_lit 0)))] pc L st) (isE m (nat_lit 0) (nat_lit 42) (.pow (.mul (.var (nat_lit 282666)) (.natCast (nat_lit 1))) (nat_lit 0))))) (fun v _ m => Bool.and (sKC (cRg [((nat_lit 282666), (nat_lit 282666))]) (nat_lit 69) (nat_lit 45) tMv (memB [(nat_lit 0)]) m0 m) false) (nat_lit 4) LP0 [.inl (.natCast (nat_lit 126))] [] m0) = true := by decide +kernel
theorem q_ptb : allL 3 (fun b => sBeg (nat_lit 69) (nat_lit 45) tMv (memB [(nat_lit 0)]) [((nat_lit 0), (nat_lit 46), (.natCast b))] (fun m0 => sx PG (nat_lit 2000) (nat_lit 6) (PG (nat_lit 218)) (fun pc => memB [(nat_lit 53), (nat_lit 161), (nat_lit 184), (nat_lit 233), (nat_lit 260)] pc) (fun pc L st _ m => Bool.and (sKC (cRg [((nat_lit 282666), (nat_lit 282666)), ((nat_lit 282670), (nat_lit 282670))]) (nat_lit 69) (nat_lit 45) tMv (memB [(nat_lit 0)]) m0 m) (Bool.and (kAt (nat_lit 260) (LPp (nat_lit 91)) [.inl (.var (nat_lit 282666)), .inl (.natCast (nat_lit 2)), .inr (.inr (some (nat_lit 0)))] pc L st) (Bool.and (isE m (nat_lit 0) (nat_lit 42) (.pow (.mul (.var (nat_lit 282666)) (.natCast (nat_lit 1))) (nat_lit 0))) (isE m (nat_lit 0) (nat_lit 46) (.natCast (Nat.succ b)))))) (fun v _ m => Bool.and (sKC (cRg [((nat_lit 282666), (nat_lit 282666)), ((nat_lit 282670), (nat_lit 282670))]) (nat_lit 69) (nat_lit 45) tMv (memB [(nat_lit 0)]) m0 m) false) (nat_lit 4) LP0 [.inl (.natCast (nat_lit 91))] [] m0)) = true := by decide +kernel
theorem q_pt3 : sBeg (nat_lit 69) (nat_lit 45) tMv (memB [(nat_lit 0)]) [((nat_lit 0), (nat_lit 46), (.natCast (nat_lit 3)))] (fun m0 => sx PG (nat_lit 500) (nat_lit 6) (PG (nat_lit 218)) (fun pc => memB [(nat_lit 53), (nat_lit 161), (nat_lit 184), (nat_lit 233), (nat_lit 260)] pc) (fun pc L st _ m => Bool.and (eqL eqC m m0) (kAt (nat_lit 233) (LPp (nat_lit 91)) [.inl (.var (nat_lit 282666)), .inl (.natCast (nat_lit 1)), .inr (.inr (some (nat_lit 0)))] pc L st)) (fun v _ m => Bool.and (eqL eqC m m0) false) (nat_lit 4) LP0 [.inl (.natCast (nat_lit 91))] [] m0) = true := by decide +kernel
theorem q_ptx : allL 127 (fun c => Bool.or (memB [nat_lit 101, nat_lit 115, nat_lit 40, nat_lit 126, nat_lit 91] c) (sBeg (nat_lit 69) (nat_lit 45) tMv (memB [(nat_lit 0)]) [] (fun m0 => sx PG (nat_lit 500) (nat_lit 6) (PG (nat_lit 218)) (fun pc => memB [(nat_lit 53), (nat_lit 161), (nat_lit 184), (nat_lit 233), (nat_lit 260)] pc) (fun pc L st _ m => Bool.and (eqL eqC m m0) (kAt (nat_lit 233) (LPp c) [.inl (.var (nat_lit 282666)), .inl (.natCast (nat_lit 1)), .inr (.inr (some (nat_lit 0)))] pc L st)) (fun v _ m => Bool.and (eqL eqC m m0) false) (nat_lit 4) LP0 [.inl (.natCast c)] [] m0))) = true := by decide +kernel
theorem q_ps0 : sBeg (nat_lit 69) (nat_lit 45) tMv (memB [(nat_lit 0)]) [] (fun m0 => sx PG (nat_lit 500) (nat_lit 6) (PG (nat_lit 218)) (fun pc => memB [(nat_lit 65), (nat_lit 70)] pc) (fun pc L st _ m => Bool.and (eqL eqC m m0) (kAt (nat_lit 65) (LPq (nat_lit 115)) [.inl (.var (nat_lit 282666)), .inl (.natCast (nat_lit 1)), .inr (.inr (some (nat_lit 0)))] pc L st)) (fun v _ m => Bool.and (eqL eqC m m0) false) (nat_lit 56) (LPq (nat_lit 115)) [.inl (.natCast (nat_lit 0))] [] m0) = true := by decide +kernel
theorem q_ps1 : sx PG (nat_lit 30) (nat_lit 6) (PG (nat_lit 218)) (fun pc => Nat.beq pc (nat_lit 70)) (fun pc L st _ m => Bool.and (eqL eqC m []) (kAt (nat_lit 70) (LPq (nat_lit 115)) [.inr (.inr (some (nat_lit 0)))] pc L st)) (fun _ _ m => Bool.and (eqL eqC m []) false) (nat_lit 56) (LPq (nat_lit 115)) [.inl (.natCast (nat_lit 1))] [] [] = true := by decide +kernel
noncomputable def psJ (v : Nat) : Bool := sBeg (nat_lit 69) (nat_lit 45) tMv (memB [(nat_lit 0), (nat_lit 39)]) [((nat_lit 0), (nat_lit 50), (.natCast (nat_lit 0)))] (fun m0 => sx PG (nat_lit 2000) (nat_lit 6) (PG (nat_lit 218)) (fun pc => memB [(nat_lit 100)] pc) (fun pc L st _ m => Bool.and (sKC (cRg [((nat_lit 282666), (nat_lit 282666)), ((nat_lit 442369), (nat_lit 442373))]) (nat_lit 69) (nat_lit 45) tMv (memB [(nat_lit 0), (nat_lit 39)]) m0 m) false) (fun v9 _ m => Bool.and (sKC (cRg [((nat_lit 282666), (nat_lit 282666)), ((nat_lit 442369), (nat_lit 442373))]) (nat_lit 69) (nat_lit 45) tMv (memB [(nat_lit 0), (nat_lit 39)]) m0 m) (Bool.and (eqO v9 (some (.inl (.natCast (nat_lit 1))))) (Bool.and (isE m (nat_lit 0) (nat_lit 42) (.pow (.mul (.var (nat_lit 282666)) (.natCast (nat_lit 1))) (nat_lit 0))) (allL 5 (fun i => isE m (nat_lit 39) (Nat.succ i) (.natCast (Nat.succ i))))))) (nat_lit 73) (LPq (nat_lit 115)) [.inl (.natCast (Nat.add (nat_lit 49) v))] [] m0)
theorem q_psJ : allL 5 psJ = true := by decide +kernel
noncomputable def psG (n v : Nat) : Bool := sBeg (nat_lit 69) (nat_lit 45) tMv (memB [(nat_lit 0), (nat_lit 39)]) [((nat_lit 0), (nat_lit 50), (.natCast (nat_lit 1))), ((nat_lit 0), (nat_lit 1), (.natCast n))] (fun m0 => sx PG (nat_lit 2000) (nat_lit 6) (PG (nat_lit 218)) (fun pc => memB [(nat_lit 100)] pc) (fun pc L st _ m => Bool.and (sKC (cRg [((nat_lit 282666), (nat_lit 282666)), ((nat_lit 442369), (nat_lit 442373))]) (nat_lit 69) (nat_lit 45) tMv (memB [(nat_lit 0), (nat_lit 39)]) m0 m) false) (fun v9 _ m => Bool.and (sKC (cRg [((nat_lit 282666), (nat_lit 282666)), ((nat_lit 442369), (nat_lit 442373))]) (nat_lit 69) (nat_lit 45) tMv (memB [(nat_lit 0), (nat_lit 39)]) m0 m) (Bool.and (eqO v9 (some (.inl (.natCast (nat_lit 1))))) (Bool.and (isE m (nat_lit 0) (nat_lit 42) (.pow (.mul (.var (nat_lit 282666)) (.natCast (nat_lit 1))) (nat_lit 0))) (allL 5 (fun i => isE m (nat_lit 39) (Nat.succ i) (.natCast (nthO (nbO (Nat.succ v)) i))))))) (nat_lit 73) (LPq (nat_lit 115)) [.inl (.natCast (Nat.add (nat_lit 49) v))] [] m0)
noncomputable def psB (n v : Nat) : Bool := sBeg (nat_lit 69) (nat_lit 45) tMv (memB [(nat_lit 0), (nat_lit 39)]) [((nat_lit 0), (nat_lit 50), (.natCast (nat_lit 1))), ((nat_lit 0), (nat_lit 1), (.natCast n))] (fun m0 => sx PG (nat_lit 500) (nat_lit 6) (PG (nat_lit 218)) (fun pc => memB [(nat_lit 100)] pc) (fun pc L st _ m => Bool.and (eqL eqC m m0) (kAt (nat_lit 100) [some (.inr (.inr (some (nat_lit 0)))), some (.inl (.var (nat_lit 819290))), some (.inl (.natCast (nat_lit 115))), some (.inl (.var (nat_lit 819291))), some (.inl (.natCast (Nat.succ v)))] [.inl (.var (nat_lit 282666)), .inl (.natCast (nat_lit 4)), .inr (.inr (some (nat_lit 0)))] pc L st)) (fun v9 _ m => Bool.and (eqL eqC m m0) false) (nat_lit 73) (LPq (nat_lit 115)) [.inl (.natCast (Nat.add (nat_lit 49) v))] [] m0)
theorem q_psW : allL 6 (fun n => allL 5 (fun v => Bool.rec (motive := fun _ => Bool) (psB n v) (psG n v) (Nat.ble (Nat.succ (Nat.succ v)) n))) = true := by decide +kernel
theorem q_pr68 : sx PG (nat_lit 20) (nat_lit 6) (PG (nat_lit 218)) (fun _ => false) (fun _ _ _ _ _ => false) (fun v0 _ m => Bool.and (eqL eqC m []) (eqO v0 (some (.inl (.natCast (nat_lit 0)))))) (nat_lit 68) LPn [.inl (.natCast (nat_lit 0))] [] [] = true := by decide +kernel
theorem q_pr103 : sx PG (nat_lit 20) (nat_lit 6) (PG (nat_lit 218)) (fun _ => false) (fun _ _ _ _ _ => false) (fun v0 _ m => Bool.and (eqL eqC m []) (eqO v0 (some (.inl (.natCast (nat_lit 0)))))) (nat_lit 103) LPn [.inl (.natCast (nat_lit 0))] [] [] = true := by decide +kernel
theorem q_pr236 : sx PG (nat_lit 20) (nat_lit 6) (PG (nat_lit 218)) (fun _ => false) (fun _ _ _ _ _ => false) (fun v0 _ m => Bool.and (eqL eqC m []) (eqO v0 (some (.inl (.natCast (nat_lit 0)))))) (nat_lit 236) LPn [.inl (.natCast (nat_lit 0))] [] [] = true := by decide +kernel
theorem q_pr293 : sx PG (nat_lit 20) (nat_lit 6) (PG (nat_lit 218)) (fun _ => false) (fun _ _ _ _ _ => false) (fun v0 _ m => Bool.and (eqL eqC m []) (eqO v0 (some (.inl (.natCast (nat_lit 0)))))) (nat_lit 293) LPn [.inl (.natCast (nat_lit 0))] [] [] = true := by decide +kernel
theorem q_pr164 : sx PG (nat_lit 20) (nat_lit 6) (PG (nat_lit 218)) (fun _ => false) (fun _ _ _ _ _ => false) (fun v0 _ m => Bool.and (eqL eqC m []) (eqO v0 (some (.inl (.natCast (nat_lit 0)))))) (nat_lit 164) LPn [.inl (.natCast (nat_lit 0))] [] [] = true := by decide +kernel
theorem q_pr192 : sx PG (nat_lit 20) (nat_lit 6) (PG (nat_lit 218)) (fun _ => false) (fun _ _ _ _ _ => false) (fun v0 _ m => Bool.and (eqL eqC m []) (eqO v0 (some (.inl (.natCast (nat_lit 0)))))) (nat_lit 192) LPn [.inl (.natCast (nat_lit 0))] [] [] = true := by decide +kernel
theorem q_pr270 : sx PG (nat_lit 20) (nat_lit 6) (PG (nat_lit 218)) (fun _ => false) (fun _ _ _ _ _ => false) (fun v0 _ m => Bool.and (eqL eqC m []) (eqO v0 (some (.inl (.natCast (nat_lit 0)))))) (nat_lit 270) LPn [.inl (.natCast (nat_lit 0))] [] [] = true := by decide +kernel
theorem q_pr164b : sx PG (nat_lit 20) (nat_lit 6) (PG (nat_lit 218)) (fun _ => false) (fun _ _ _ _ _ => false) (fun v0 _ m => Bool.and (eqL eqC m []) (eqO v0 (some (.inl (.natCast (nat_lit 1)))))) (nat_lit 164) LPn [.inl (.natCast (nat_lit 1))] [] [] = true := by decide +kernel
theorem q_pt187 : sx PG (nat_lit 30) (nat_lit 6) (PG (nat_lit 218)) (fun pc => Nat.beq pc (nat_lit 189)) (fun pc L st _ m => Bool.and (eqL eqC m []) (kAt (nat_lit 189) (LPq (nat_lit 126)) [.inl (.var (nat_lit 819290)), .inr (.inr (some (nat_lit 0)))] pc L st)) (fun _ _ m => Bool.and (eqL eqC m []) false) (nat_lit 187) (LPq (nat_lit 126)) [] [] [] = true := by decide +kernel
theorem q_pt192 : sBeg (nat_lit 69) (nat_lit 45) tMv (memB [(nat_lit 0)]) [] (fun m0 => sx PG (nat_lit 2000) (nat_lit 6) (PG (nat_lit 218)) (fun pc => memB [(nat_lit 208)] pc) (fun pc L st _ m => Bool.and (sKC (cRg [((nat_lit 282669), (nat_lit 282669))]) (nat_lit 69) (nat_lit 45) tMv (memB [(nat_lit 0)]) m0 m) (Bool.and (kAt (nat_lit 208) (LPq (nat_lit 126)) [.inr (.inr (some (nat_lit 0)))] pc L st) (isE m (nat_lit 0) (nat_lit 45) (.pow (.mul (.var (nat_lit 282669)) (.natCast (nat_lit 1))) (nat_lit 1))))) (fun v _ m => Bool.and (sKC (cRg [((nat_lit 282669), (nat_lit 282669))]) (nat_lit 69) (nat_lit 45) tMv (memB [(nat_lit 0)]) m0 m) false) (nat_lit 192) (LPq (nat_lit 126)) [.inl (.natCast (nat_lit 1))] [] m0) = true := by decide +kernel
theorem q_pr211 : sx PG (nat_lit 20) (nat_lit 6) (PG (nat_lit 218)) (fun _ => false) (fun _ _ _ _ _ => false) (fun v0 _ m => Bool.and (eqL eqC m []) (eqO v0 (some (.inl (.natCast (nat_lit 1)))))) (nat_lit 211) LPn [] [] [] = true := by decide +kernel
theorem q_pt263 : sx PG (nat_lit 30) (nat_lit 6) (PG (nat_lit 218)) (fun pc => Nat.beq pc (nat_lit 267)) (fun pc L st _ m => Bool.and (eqL eqC m []) (kAt (nat_lit 267) (LPq (nat_lit 91)) [.inl (.pow (.mul (.var (nat_lit 819290)) (.natCast (nat_lit 1))) (nat_lit 0)), .inr (.inr (some (nat_lit 0)))] pc L st)) (fun _ _ m => Bool.and (eqL eqC m []) false) (nat_lit 263) (LPq (nat_lit 91)) [] [] [] = true := by decide +kernel
theorem q_pt270 : sx PG (nat_lit 30) (nat_lit 6) (PG (nat_lit 218)) (fun pc => Nat.beq pc (nat_lit 276)) (fun pc L st _ m => Bool.and (eqL eqC m []) (kAt (nat_lit 276) (LPq (nat_lit 91)) [.inr (.inr (some (nat_lit 0)))] pc L st)) (fun _ _ m => Bool.and (eqL eqC m []) false) (nat_lit 270) (LPq (nat_lit 91)) [.inl (.natCast (nat_lit 1))] [] [] = true := by decide +kernel
theorem q_pt279x : allL 127 (fun c => Bool.or (Nat.beq c (nat_lit 93)) (sBeg (nat_lit 69) (nat_lit 45) tMv (memB [(nat_lit 0)]) [] (fun m0 => sx PG (nat_lit 500) (nat_lit 6) (PG (nat_lit 218)) (fun pc => memB [(nat_lit 290)] pc) (fun pc L st _ m => Bool.and (eqL eqC m m0) (kAt (nat_lit 290) (LPq (nat_lit 91)) [.inl (.var (nat_lit 282666)), .inl (.natCast (nat_lit 1)), .inr (.inr (some (nat_lit 0)))] pc L st)) (fun v _ m => Bool.and (eqL eqC m m0) false) (nat_lit 279) (LPq (nat_lit 91)) [.inl (.natCast c)] [] m0))) = true := by decide +kernel
noncomputable def LPd (e : Nat) : sL := [some (.inr (.inr (some (nat_lit 0)))), some (.inl (.natCast e)), some (.inl (.natCast (nat_lit 91))), some (.inl (.var (nat_lit 819291))), none]
theorem q_pt279 : allL 3 (fun e => sBeg (nat_lit 69) (nat_lit 45) tMv (memB [(nat_lit 0), (nat_lit 38), (nat_lit 39)]) [] (fun m0 => sx PG (nat_lit 2000) (nat_lit 6) (PG (nat_lit 218)) (fun pc => memB [(nat_lit 290)] pc) (fun pc L st _ m => Bool.and (sKC (cRg [((nat_lit 282666), (nat_lit 282666)), ((nat_lit 282669), (nat_lit 282670)), ((nat_lit 442369), (nat_lit 442373))]) (nat_lit 69) (nat_lit 45) tMv (memB [(nat_lit 0), (nat_lit 38), (nat_lit 39)]) m0 m) false) (fun v _ m => Bool.and (sKC (cRg [((nat_lit 282666), (nat_lit 282666)), ((nat_lit 282669), (nat_lit 282670)), ((nat_lit 442369), (nat_lit 442373))]) (nat_lit 69) (nat_lit 45) tMv (memB [(nat_lit 0), (nat_lit 38), (nat_lit 39)]) m0 m) (Bool.and (eqO v (some (.inl (.natCast (nat_lit 1))))) (Bool.and (isE m (nat_lit 0) (nat_lit 42) (.pow (.mul (.var (nat_lit 282666)) (.natCast (nat_lit 1))) (nat_lit 0))) (Bool.and (isE m (nat_lit 0) (nat_lit 46) (.pow (.mul (.var (nat_lit 282670)) (.natCast (nat_lit 1))) (nat_lit 1))) (Bool.and (isE m (nat_lit 0) (nat_lit 45) (.pow (.mul (.var (nat_lit 282669)) (.natCast (nat_lit 1))) (nat_lit 1))) (allL 5 (fun i => isE m (nat_lit 39) (Nat.succ i) (.var (Nat.add (nat_lit 438279) (Nat.add (Nat.mul (nat_lit 6) e) i)))))))))) (nat_lit 279) (LPd e) [.inl (.natCast (nat_lit 93))] [] m0)) = true := by decide +kernel
noncomputable def LT0 (e : Nat) (x y : Option sV) : sL := [some (.inr (.inr (some (nat_lit 0)))), some (.inl (.natCast e)), x, y]
theorem q_txE : allL 4 (fun e => sEnt [.inr (.inr (some (nat_lit 0))), .inl (.natCast e)] (PG (nat_lit 220)).2.1 (fun L => eqL eqO L (LT0 e none none))) = true := by decide +kernel
theorem q_tx0 : allL 4 (fun e => sBeg (nat_lit 69) (nat_lit 45) tMv (memB [(nat_lit 0), (nat_lit 38)]) [] (fun m0 => sx PG (nat_lit 2000) (nat_lit 6) (PG (nat_lit 220)) (fun pc => memB [(nat_lit 19)] pc) (fun pc L st _ m => Bool.and (sKC (cRg [(Nat.add (nat_lit 438273) (Nat.mul (nat_lit 6) e), Nat.add (nat_lit 438277) (Nat.mul (nat_lit 6) e))]) (nat_lit 69) (nat_lit 45) tMv (memB [(nat_lit 0), (nat_lit 38)]) m0 m) (Bool.and (kAt (nat_lit 19) (LT0 e (some (.inl (.natCast (nat_lit 1)))) none) [.inl (.natCast e), .inr (.inr (some (nat_lit 0)))] pc L st) (allL 5 (fun i => isE m (nat_lit 38) (Nat.add (Nat.mul (nat_lit 6) e) (Nat.succ i)) (.natCast (Nat.succ i)))))) (fun v _ m => Bool.and (sKC (cRg [(Nat.add (nat_lit 438273) (Nat.mul (nat_lit 6) e), Nat.add (nat_lit 438277) (Nat.mul (nat_lit 6) e))]) (nat_lit 69) (nat_lit 45) tMv (memB [(nat_lit 0), (nat_lit 38)]) m0 m) false) (nat_lit 0) (LT0 e none none) [] [] m0)) = true := by decide +kernel
theorem q_tx1 : allL 4 (fun e => sx PG (nat_lit 30) (nat_lit 6) (PG (nat_lit 220)) (fun pc => Nat.beq pc (nat_lit 34)) (fun pc L st _ m => Bool.and (eqL eqC m []) (kAt (nat_lit 34) (LT0 e (some (.inl (.natCast (nat_lit 1)))) (some (.inl (.natCast (nat_lit 1))))) [] pc L st)) (fun _ _ m => Bool.and (eqL eqC m []) false) (nat_lit 22) (LT0 e (some (.inl (.natCast (nat_lit 1)))) none) [.inl (.natCast (nat_lit 1))] [] []) = true := by decide +kernel
theorem q_txR : allL 4 (fun e => sx PG (nat_lit 20) (nat_lit 6) (PG (nat_lit 220)) (fun _ => false) (fun _ _ _ _ _ => false) (fun v0 _ m => Bool.and (eqL eqC m []) (eqO v0 (some (.inl (.natCast (nat_lit 0)))))) (nat_lit 22) (LT0 e (some (.inl (.natCast (nat_lit 1)))) none) [.inl (.natCast (nat_lit 0))] [] []) = true := by decide +kernel
theorem q_txA : allL 4 (fun e => allL 5 (fun i => allL 6 (fun v => sBeg (nat_lit 69) (nat_lit 45) tMv (memB [(nat_lit 0), (nat_lit 19), (nat_lit 38), (nat_lit 39)]) [((nat_lit 39), (Nat.succ i), (.natCast v))] (fun m0 => sx PG (nat_lit 2000) (nat_lit 6) (PG (nat_lit 220)) (fun pc => memB [(nat_lit 29)] pc) (fun pc L st _ m => Bool.and (sKC (cRg [(Nat.add (nat_lit 360449) i, Nat.add (nat_lit 360449) i)]) (nat_lit 69) (nat_lit 45) tMv (memB [(nat_lit 0), (nat_lit 19), (nat_lit 38), (nat_lit 39)]) m0 m) (Bool.and (kAt (nat_lit 29) (LT0 e (some (.inl (.natCast (nat_lit 1)))) (some (.inl (.natCast (Nat.succ (Nat.succ i)))))) [] pc L st) (isE m (nat_lit 19) (Nat.succ i) (.var (Nat.add (nat_lit 438272) (Nat.add (Nat.mul (nat_lit 6) e) v)))))) (fun v9 _ m => Bool.and (sKC (cRg [(Nat.add (nat_lit 360449) i, Nat.add (nat_lit 360449) i)]) (nat_lit 69) (nat_lit 45) tMv (memB [(nat_lit 0), (nat_lit 19), (nat_lit 38), (nat_lit 39)]) m0 m) false) (nat_lit 34) (LT0 e (some (.inl (.natCast (nat_lit 1)))) (some (.inl (.natCast (Nat.succ i))))) [] [] m0)))) = true := by decide +kernel
theorem q_txB : allL 4 (fun e => allL 4 (fun i => sx PG (nat_lit 30) (nat_lit 6) (PG (nat_lit 220)) (fun pc => Nat.beq pc (nat_lit 34)) (fun pc L st _ m => Bool.and (eqL eqC m []) (kAt (nat_lit 34) (LT0 e (some (.inl (.natCast (nat_lit 1)))) (some (.inl (.natCast (Nat.succ (Nat.succ i)))))) [] pc L st)) (fun _ _ m => Bool.and (eqL eqC m []) false) (nat_lit 29) (LT0 e (some (.inl (.natCast (nat_lit 1)))) (some (.inl (.natCast (Nat.succ (Nat.succ i)))))) [] [] [])) = true := by decide +kernel
theorem q_txC : allL 4 (fun e => sBeg (nat_lit 69) (nat_lit 45) tMv (memB [(nat_lit 0), (nat_lit 19), (nat_lit 38)]) [] (fun m0 => sx PG (nat_lit 2000) (nat_lit 6) (PG (nat_lit 220)) (fun pc => memB [(nat_lit 93)] pc) (fun pc L st _ m => Bool.and (sKC (cRg [(Nat.add (nat_lit 438273) (Nat.mul (nat_lit 6) e), Nat.add (nat_lit 438277) (Nat.mul (nat_lit 6) e))]) (nat_lit 69) (nat_lit 45) tMv (memB [(nat_lit 0), (nat_lit 19), (nat_lit 38)]) m0 m) (Bool.and (kAt (nat_lit 93) (LT0 e (some (.inl (.natCast (nat_lit 1)))) (some (.inl (.natCast (nat_lit 6))))) [.inr (.inr (some (nat_lit 0)))] pc L st) (allL 5 (fun i => isE m (nat_lit 38) (Nat.add (Nat.mul (nat_lit 6) e) (Nat.succ i)) (.var (Nat.add (nat_lit 360449) i)))))) (fun v _ m => Bool.and (sKC (cRg [(Nat.add (nat_lit 438273) (Nat.mul (nat_lit 6) e), Nat.add (nat_lit 438277) (Nat.mul (nat_lit 6) e))]) (nat_lit 69) (nat_lit 45) tMv (memB [(nat_lit 0), (nat_lit 19), (nat_lit 38)]) m0 m) false) (nat_lit 29) (LT0 e (some (.inl (.natCast (nat_lit 1)))) (some (.inl (.natCast (nat_lit 6))))) [] [] m0)) = true := by decide +kernel
theorem q_txD : allL 4 (fun e => sBeg (nat_lit 69) (nat_lit 45) tMv (memB [(nat_lit 0)]) [] (fun m0 => sx PG (nat_lit 2000) (nat_lit 6) (PG (nat_lit 220)) (fun pc => memB [(nat_lit 19)] pc) (fun pc L st _ m => Bool.and (sKC (cRg [((nat_lit 282666), (nat_lit 282666))]) (nat_lit 69) (nat_lit 45) tMv (memB [(nat_lit 0)]) m0 m) (Bool.and (kAt (nat_lit 19) (LT0 e (some (.inl (.natCast (nat_lit 1)))) (some (.inl (.natCast (nat_lit 6))))) [.inl (.natCast e), .inr (.inr (some (nat_lit 0)))] pc L st) (isE m (nat_lit 0) (nat_lit 42) (.pow (.mul (.var (nat_lit 282666)) (.natCast (nat_lit 1))) (nat_lit 0))))) (fun v _ m => Bool.and (sKC (cRg [((nat_lit 282666), (nat_lit 282666))]) (nat_lit 69) (nat_lit 45) tMv (memB [(nat_lit 0)]) m0 m) false) (nat_lit 96) (LT0 e (some (.inl (.natCast (nat_lit 1)))) (some (.inl (.natCast (nat_lit 6))))) [.inl (.natCast (nat_lit 42))] [] m0)) = true := by decide +kernel
theorem q_txF : allL 4 (fun e => allL 127 (fun c => Bool.or (Nat.beq c (nat_lit 42)) (sBeg (nat_lit 69) (nat_lit 45) tMv (memB [(nat_lit 0)]) [] (fun m0 => sx PG (nat_lit 2000) (nat_lit 6) (PG (nat_lit 220)) (fun pc => memB [(nat_lit 19)] pc) (fun pc L st _ m => Bool.and (sKC (cRg [((nat_lit 282666), (nat_lit 282666))]) (nat_lit 69) (nat_lit 45) tMv (memB [(nat_lit 0)]) m0 m) false) (fun v _ m => Bool.and (sKC (cRg [((nat_lit 282666), (nat_lit 282666))]) (nat_lit 69) (nat_lit 45) tMv (memB [(nat_lit 0)]) m0 m) (Bool.and (eqO v (some (.inl (.natCast (nat_lit 1))))) (Bool.or (isE m (nat_lit 0) (nat_lit 42) (.pow (.mul (.var (nat_lit 282666)) (.natCast (nat_lit 0))) (nat_lit 0))) (isE m (nat_lit 0) (nat_lit 42) (.var (nat_lit 282666)))))) (nat_lit 96) (LT0 e (some (.inl (.natCast (nat_lit 1)))) (some (.inl (.natCast (nat_lit 6))))) [.inl (.natCast c)] [] m0)))) = true := by decide +kernel
section RP
variable {D : va_G} {cy : Nat → ClassId} {al : Nat → Nat} {rest : va_W}
def partP (l : Launch) (D : va_G) (cy : Nat → ClassId) (al : Nat → Nat) (rest : va_W) (n z w : Nat) (B : Nat → Nat) (N : Nat) : Prop := ∀ (p dep f : Nat) (r : sE) (O : txT) (M : List (List Nat)) (s : List Nat) (W : Option txT), z - p ≤ N → p ≤ z → O.length ≤ p → M.length = dep + 1 → dep ≤ 3 → MSt n z w B r p O dep (dep + 1) → (w = 1 → W = none) → gMet l D cy al (2 * N + 8) 218 (tW r al cy rest 45 tMv) [.ref (al 0), .int (Int32.ofNat dep)] (fun (v : Option Value) (w2 : va_W) => ∃ r1, w2 = tW r1 al cy rest 45 tMv ∧ ((v = some (.int (Int32.ofNat 1)) ∧ kpC (cRg CHS) 69 45 tMv r r1 ∧ ∃ q o s1 f1 W1, p < q ∧ q ≤ z ∧ txGo n B (0, O, M, s, f, W) p (txF O M o s1 f1 W1) q ∧ (w = 1 → W1 = none) ∧ PRt n w r1 o ∧ MSt n z w B r1 q O dep (dep + 1) ∧ ∀ u, u < 6 * (dep + 1) → r1.1 (mP 38 0 + u) = r.1 (mP 38 0 + u)) ∨ (v = some (.int (Int32.ofNat 0)) ∧ kpC (cRg CHF) 69 45 tMv r r1 ∧ txBd n z w B (0, O, M, s, f, W) p r1)))
def textP (l : Launch) (D : va_G) (cy : Nat → ClassId) (al : Nat → Nat) (rest : va_W) (n z w : Nat) (B : Nat → Nat) (N : Nat) : Prop := ∀ (p dep f : Nat) (r : sE) (O : txT) (M : List (List Nat)) (s : List Nat) (W : Option txT), z - p ≤ N → p ≤ z → O.length ≤ p → M.length = dep → dep ≤ 3 → noT O → MSt n z w B r p O dep dep → (w = 1 → W = none) → gMet l D cy al (2 * N + 9) 220 (tW r al cy rest 45 tMv) [.ref (al 0), .int (Int32.ofNat dep)] (fun (v : Option Value) (w2 : va_W) => ∃ r1, w2 = tW r1 al cy rest 45 tMv ∧ ((v = some (.int (Int32.ofNat 1)) ∧ kpC (cRg CHS) 69 45 tMv r r1 ∧ ∃ q o s1 f1 W1, p < q ∧ q ≤ z ∧ txGo n B (0, O, txI :: M, s, f, W) p (3, O, o :: M, s1, f1, W1) q ∧ ¬ txB z B q = 42 ∧ (w = 1 → W1 = none ∧ o ∈ ordN n ∧ ∀ i, i < 5 → r1.1 (mP 38 0 + (6 * dep + (i + 1))) = Int32.ofNat (nthO o i)) ∧ MSt n z w B r1 q O dep (dep + 1) ∧ ∀ u, u < 6 * dep → r1.1 (mP 38 0 + u) = r.1 (mP 38 0 + u)) ∨ (v = some (.int (Int32.ofNat 0)) ∧ kpC (cRg CHF) 69 45 tMv r r1 ∧ txBd n z w B (0, O, txI :: M, s, f, W) p r1)))
theorem LPq_eq {r : sE} {a b : Int32} {c : Nat} {vs : List Int32} : (LPq c).map (Option.map (sVal (uM r (a :: b :: vs)) al)) = [some (.ref (al 0)), some (.int a), some (.int (Int32.ofNat c)), some (.int b), none] := by
  simp only [LPq, List.map_cons, List.map_nil, Option.map_some, Option.map_none, sVal, uM0, uM1, sI_c]
theorem LPp_eq {r : sE} {a : Int32} {c : Nat} {vs : List Int32} : (LPp c).map (Option.map (sVal (uM r (a :: vs)) al)) = [some (.ref (al 0)), some (.int a), some (.int (Int32.ofNat c)), some (.int (r.1 282666)), none] := by
  simp only [LPp, List.map_cons, List.map_nil, Option.map_some, Option.map_none, sVal, uM0, sI_c]
  rw [uMv (by decide)]
theorem LP0_eq {r : sE} {a : Int32} {vs : List Int32} : LP0.map (Option.map (sVal (uM r (a :: vs)) al)) = [some (.ref (al 0)), some (.int a), none, none, none] := by
  simp only [LP0, List.map_cons, List.map_nil, Option.map_some, Option.map_none, sVal, uM0]
theorem LPd_eq {r : sE} {a b : Int32} {e : Nat} {vs : List Int32} : (LPd e).map (Option.map (sVal (uM r (a :: b :: vs)) al)) = [some (.ref (al 0)), some (.int (Int32.ofNat e)), some (.int (Int32.ofNat 91)), some (.int b), none] := by
  simp only [LPd, List.map_cons, List.map_nil, Option.map_some, Option.map_none, sVal, uM1, sI_c]
theorem sI_sub1 {r : sE} {u k : Nat} (h : r.1 u = Int32.ofNat (k + 1)) (hu : u < 819290) {vs : List Int32} : sI (uM r vs) (.pow (.mul (.var u) (.natCast (nat_lit 1))) (nat_lit 1)) = Int32.ofNat k := by
  show (sD _ _).1 = _
  rw [sD_b]
  show sI _ (.var u) - sI _ (.natCast 1) = _
  rw [uMv hu, sI_c, h, Int32.ofNat_add]
  exact Int32.add_sub_cancel _ _
theorem noT_E {O : txT} {M : List (List Nat)} {o : List Nat} (h : noT O) : txE O M o = (O, txM M o) := by
  cases O with
  | nil => rfl
  | cons x O => exact txE_no h
/-- places that may have changed, and which have not -/
theorem wt_st {r r1 : sE} {l : List (Nat × Nat)} (h : kpC (cRg l) 69 45 tMv r r1) {u : Nat} (hu : u < 24) (h1 : outR (mP 38 u) l) : r1.1 (mP 38 0 + u) = r.1 (mP 38 0 + u) := by
  have := kpR h (vM_r.2.2.1 u hu) h1
  rw [show mP 38 0 + u = mP 38 u by unfold mP; omega]
  exact this
theorem le5_id {w n : Nat} {r : sE} {o : List Nat} (hn : 1 ≤ n) (hn5 : n ≤ 5) (ho : o ∈ ordN n) (h : ∀ i, i < 5 → r.1 (mP 39 1 + i) = Int32.ofNat (nthO o i)) : PRt n w r o := ⟨fun i hi => ⟨_, nth_inv hn hn5 ho hi, h i hi⟩, fun _ => ⟨ho, h⟩⟩
theorem le5_jk {w n : Nat} {r : sE} {o : List Nat} (hw : w = 0) (h : ∀ i, i < 5 → le5 r (mP 39 1 + i)) : PRt n w r o := ⟨h, fun q => by omega⟩
theorem txI_get {i : Nat} (hi : i < 5) : nthO txI i = i + 1 := by
  match i, hi with
  | 0, _ => rfl
  | 1, _ => rfl
  | 2, _ => rfl
  | 3, _ => rfl
  | 4, _ => rfl
theorem text_of (l : Launch) {n z w N : Nat} {B : Nat → Nat} (hn : 1 ≤ n) (hn5 : n ≤ 5) (hz : z ≤ 80) (hw : w < 2) (hB : ∀ i, i < z → B i < 127) (hPt : partP l D cy al rest n z w B N) : textP l D cy al rest n z w B N := by
  intro p dep f r O M s W hN hp hO hM hdep hnt hS hW
  have key := gMet_ofL (l := l) (D := D) (cy := cy) (al := al) (d := 2 * N + 9) (k := 220) (w := tW r al cy rest 45 tMv) (r := uM r []) (G := (fun (v : Option Value) (w2 : va_W) => ∃ r1, w2 = tW r1 al cy rest 45 tMv ∧ ((v = some (.int (Int32.ofNat 1)) ∧ kpC (cRg CHS) 69 45 tMv r r1 ∧ ∃ q o s1 f1 W1, p < q ∧ q ≤ z ∧ txGo n B (0, O, txI :: M, s, f, W) p (3, O, o :: M, s1, f1, W1) q ∧ ¬ txB z B q = 42 ∧ (w = 1 → W1 = none ∧ o ∈ ordN n ∧ ∀ i, i < 5 → r1.1 (mP 38 0 + (6 * dep + (i + 1))) = Int32.ofNat (nthO o i)) ∧ MSt n z w B r1 q O dep (dep + 1) ∧ ∀ u, u < 6 * dep → r1.1 (mP 38 0 + u) = r.1 (mP 38 0 + u)) ∨ (v = some (.int (Int32.ofNat 0)) ∧ kpC (cRg CHF) 69 45 tMv r r1 ∧ txBd n z w B (0, O, txI :: M, s, f, W) p r1)))) (allL_ok q_txE dep (by omega)) (fun At hFCd hLD => ?_)
  · simp only [List.map_cons, List.map_nil, sVal, sI_c] at key
    exact key
  have hFC := hFCd 6 (by omega)
  have hFN := hFCd (2 * N + 9) (Nat.le_refl _)
  have lt : ∀ (r2 : sE) (x y : Option sV), (LT0 dep x y).map (Option.map (sVal (uM r2 []) al)) = [some (.ref (al 0)), some (.int (Int32.ofNat dep)), x.map (sVal (uM r2 []) al), y.map (sVal (uM r2 []) al)] := fun r2 x y => by simp only [LT0, List.map_cons, List.map_nil, Option.map_some, sVal, sI_c]
  have lc : ∀ (r2 : sE) (k : Nat), (some (.inl (.natCast k)) : Option sV).map (sVal (uM r2 []) al) = some (.int (Int32.ofNat k)) := fun r2 k => by
    show some (Value.int (sI _ _)) = _
    rw [sI_c]
  have wk4 : ∀ {pc : Nat} {a b c d : Option Value} {SV : List Value} {w2 : va_W}, At pc [a, b, c, none] SV w2 → At pc [a, b, c, d] SV w2 := fun {pc a b c d SV w2} h => hLD.2.2 pc _ [a, b, c, none] _ _ rfl (fun i v hv => by
    match i, hv with
    | 0, hv => exact hv
    | 1, hv => exact hv
    | 2, hv => exact hv
    | 3, hv => cases hv
    | i + 4, hv => cases hv) h
  -- a PART more
  have loop : ∀ (m q : Nat) (r2 : sE) (o : List Nat) (s1 : List Nat) (f1 : Nat) (W1 : Option txT), z - q ≤ m → p ≤ q → q ≤ z → kpC (cRg CHS) 69 45 tMv r r2 → MSt n z w B r2 q O dep (dep + 1) → (∀ u, u < 6 * dep → r2.1 (mP 38 0 + u) = r.1 (mP 38 0 + u)) → txGo n B (0, O, txI :: M, s, f, W) p (0, O, o :: M, s1, f1, W1) q → (w = 1 → W1 = none ∧ o ∈ ordN n ∧ ∀ i, i < 5 → r2.1 (mP 38 0 + (6 * dep + (i + 1))) = Int32.ofNat (nthO o i)) → At 19 [some (.ref (al 0)), some (.int (Int32.ofNat dep)), some (.int (Int32.ofNat 1)), none] [.int (Int32.ofNat dep), .ref (al 0)] (tW r2 al cy rest 45 tMv) := by
    intro m
    induction m with
    | zero =>
      intro q r2 o s1 f1 W1 hm hpq hqz hkp hS2 hst hgo hw1
      refine hFN.2 19 22 218 (2 * N + 8) _ [.ref (al 0), .int (Int32.ofNat dep)] [] _ _ ⟨_, _, rfl, rfl⟩ rfl (by decide) rfl (gRecv_t (by omega) rfl rfl) (hPt q dep f1 r2 O (o :: M) s1 W1 (by omega) hqz (by omega) (by simp [hM]) hdep hS2 (fun h => (hw1 h).1)) (fun v1 w2 h => ?_)
      obtain ⟨r3, rfl, h⟩ := h
      rcases h with ⟨rfl, hk3, q3, o3, s3, f3, W3, h1, h2, h3, h4, h5, h6, h7⟩ | ⟨rfl, hk3, hbd⟩
      case inr =>
        have g := g_ret (v := some (.int (Int32.ofNat 0))) hFC (r := uM r2 []) (w := tW r3 al cy rest 45 tMv) (allL_ok q_txR dep (by omega)) (fun v0 h0 => vI_ok h0) ⟨r3, rfl, Or.inr ⟨rfl, kpC_trans (CHS_F hkp) hk3, txBd_pre hgo hbd⟩⟩
        rw [lt, lc] at g
        simp only [List.map_cons, List.map_nil, sVal, sI_c] at g
        exact g
      omega
    | succ m ih =>
      intro q r2 o s1 f1 W1 hm hpq hqz hkp hS2 hst hgo hw1
      refine hFN.2 19 22 218 (2 * N + 8) _ [.ref (al 0), .int (Int32.ofNat dep)] [] _ _ ⟨_, _, rfl, rfl⟩ rfl (by decide) rfl (gRecv_t (by omega) rfl rfl) (hPt q dep f1 r2 O (o :: M) s1 W1 (by omega) hqz (by omega) (by simp [hM]) hdep hS2 (fun h => (hw1 h).1)) (fun v1 w2 h => ?_)
      obtain ⟨r3, rfl, h⟩ := h
      rcases h with ⟨rfl, hk3, q3, o3, s3, f3, W3, h1, h2, h3, h4, h5, h6, h7⟩ | ⟨rfl, hk3, hbd⟩
      case inr =>
        have g := g_ret (v := some (.int (Int32.ofNat 0))) hFC (r := uM r2 []) (w := tW r3 al cy rest 45 tMv) (allL_ok q_txR dep (by omega)) (fun v0 h0 => vI_ok h0) ⟨r3, rfl, Or.inr ⟨rfl, kpC_trans (CHS_F hkp) hk3, txBd_pre hgo hbd⟩⟩
        rw [lt, lc] at g
        simp only [List.map_cons, List.map_nil, sVal, sI_c] at g
        exact g
      rw [show txF O (o :: M) o3 s3 f3 W3 = (3, O, mulO o o3 :: M, s3, f3, W3) by unfold txF; rw [noT_E hnt]; rfl] at h3
      have g := g_pure hFC (r := uM r3 []) (al := al) (w := tW r3 al cy rest 45 tMv) sPa_nil (allL_ok q_tx1 dep (by omega)) (fun pc L st hk => ?_) (fun v hk => nomatch hk)
      · rw [lt, lc] at g
        simp only [List.map_cons, List.map_nil, sVal, sI_c] at g
        exact g
      obtain ⟨rfl, rfl, rfl⟩ := kAt_ok hk
      rw [lt, lc]
      -- the product, into the row that is left
      obtain ⟨pv, pv5, pvv⟩ : ∃ pv : Nat → Nat, (∀ i, i < 5 → pv i ≤ 5) ∧ ∀ i, i < 5 → r3.1 (mP 39 1 + i) = Int32.ofNat (pv i) := by
        have hh : ∀ i, ∃ k, i < 5 → k ≤ 5 ∧ r3.1 (mP 39 1 + i) = Int32.ofNat k := fun i => by
          by_cases hi : i < 5
          · obtain ⟨k, k1, k2⟩ := h5.1 i hi
            exact ⟨k, fun _ => ⟨k1, k2⟩⟩
          · exact ⟨0, fun q => absurd q hi⟩
        exact ⟨fun i => Classical.choose (hh i), fun i hi => (Classical.choose_spec (hh i) hi).1, fun i hi => (Classical.choose_spec (hh i) hi).2⟩
      obtain ⟨t1, t2, t3, t4, t5, t6⟩ := id h6
      have fin : ∀ r4 : sE, kpC (cRg [(360449, 360453)]) 69 45 tMv r3 r4 → (∀ i, i < 5 → r4.1 (mP 19 1 + i) = r3.1 (mP 38 0 + (6 * dep + pv i))) → At 29 [some (.ref (al 0)), some (.int (Int32.ofNat dep)), some (.int (Int32.ofNat 1)), some (.int (Int32.ofNat 6))] [] (tW r4 al cy rest 45 tMv) := fun r4 hk4 he4 => by
        have g := g_segU hFC (r := r4) (vs := []) (al := al) (cy := cy) (rest := rest) (by omega) tMv_ok cC_M sPa_nil oM_nil (allL_ok q_txC dep (by omega)) (fun m0 pc L st pa m9 hk2 hp2 hkp0 => ?_) (fun m0 v pa m1 hk2 => nomatch hk2)
        · rw [lt, lc, lc] at g
          exact g
        rw [Bool.and_eq_true] at hk2
        obtain ⟨rfl, rfl, rfl⟩ := kAt_ok hk2.1
        have hk5 : kpC (cRg [(438273 + 6 * dep, 438277 + 6 * dep)]) 69 45 tMv r4 _ := hkp0
        have e5 : ∀ i, i < 5 → (eOf 69 (uM r4 []) m9).1 (mP 38 0 + (6 * dep + (i + 1))) = r3.1 (mP 38 0 + (6 * dep + pv i)) := fun i hi => by
          rw [← he4 i hi, show mP 38 0 + (6 * dep + (i + 1)) = 4096 * (69 + 38) + (6 * dep + (i + 1)) by unfold mP; omega]
          exact (eU_v (show 6 * dep + (i + 1) < 4096 by omega) (show 360449 + i < 819290 by omega) (allL_ok hk2.2 i hi)).trans (congrArg r4.1 (by unfold mP; omega))
        generalize eOf 69 (uM r4 []) m9 = r5 at hk5 e5
        rw [lt, lc, lc]
        have u1 : TMr n z w B r5 := TMr_st hz hk5 ⟨by first | omega | (unfold mP; omega), trivial⟩ ⟨by first | omega | (unfold mP; omega), trivial⟩ ⟨by first | omega | (unfold mP; omega), trivial⟩ (fun i hi => ⟨by first | omega | (unfold mP; omega), trivial⟩) (TMr_st hz hk4 ⟨by first | omega | (unfold mP; omega), trivial⟩ ⟨by first | omega | (unfold mP; omega), trivial⟩ ⟨by first | omega | (unfold mP; omega), trivial⟩ (fun i hi => ⟨by first | omega | (unfold mP; omega), trivial⟩) t1)
        have u2 : r5.1 (mP 0 42) = Int32.ofNat q3 := (kpR hk5 (vM_0 42 (by simp)) ⟨by first | omega | (unfold mP; omega), trivial⟩).trans ((kpR hk4 (vM_0 42 (by simp)) ⟨by first | omega | (unfold mP; omega), trivial⟩).trans t2)
        have u3 : MOp r5 O := MOp_st hk5 (by omega) ⟨by first | omega | (unfold mP; omega), trivial⟩ (fun i hi => ⟨⟨by first | omega | (unfold mP; omega), trivial⟩, ⟨by first | omega | (unfold mP; omega), trivial⟩⟩) (MOp_st hk4 (by omega) ⟨by first | omega | (unfold mP; omega), trivial⟩ (fun i hi => ⟨⟨by first | omega | (unfold mP; omega), trivial⟩, ⟨by first | omega | (unfold mP; omega), trivial⟩⟩) t3)
        have u4 : r5.1 (mP 0 46) = Int32.ofNat dep := (kpR hk5 (vM_0 46 (by simp)) ⟨by first | omega | (unfold mP; omega), trivial⟩).trans ((kpR hk4 (vM_0 46 (by simp)) ⟨by first | omega | (unfold mP; omega), trivial⟩).trans t4)
        have u5 : W5 r5 (dep + 1) := fun i hi hc => by
          by_cases h : 6 * dep < i ∧ i < 6 * dep + 6
          · have := e5 (i - 6 * dep - 1) (by omega)
            rw [show 6 * dep + (i - 6 * dep - 1 + 1) = i by omega] at this
            obtain ⟨k, k1, k2⟩ := t5 (6 * dep + pv (i - 6 * dep - 1)) (by have := pv5 (i - 6 * dep - 1) (by omega); omega) (Or.inr (by have := pv5 (i - 6 * dep - 1) (by omega); omega))
            exact ⟨k, k1, this.trans k2⟩
          · exact le5_st ((wt_st hk5 hi ⟨by first | omega | (unfold mP; omega), trivial⟩).trans (wt_st hk4 hi ⟨by first | omega | (unfold mP; omega), trivial⟩)) (t5 i hi hc)
        have u6 : L5 r5 := L5_st hk5 (fun i hi => ⟨by first | omega | (unfold mP; omega), trivial⟩) (fun i hi => by
          obtain ⟨k, k1, k2⟩ := t5 (6 * dep + pv i) (by have := pv5 i hi; omega) (Or.inr (by have := pv5 i hi; omega))
          exact ⟨k, k1, (he4 i hi).trans k2⟩)
        have hk6 : kpC (cRg CHS) 69 45 tMv r r5 := kpC_trans (kpC_trans hkp hk3) (kpC_trans (cRg_w hk4 ⟨⟨360448, 360453, by simp [CHS], by omega, by omega⟩, trivial⟩) (cRg_w hk5 ⟨⟨438272, 442373, by simp [CHS], by omega, by omega⟩, trivial⟩))
        have hst5 : ∀ u, u < 6 * dep → r5.1 (mP 38 0 + u) = r.1 (mP 38 0 + u) := fun u hu => (wt_st hk5 (by omega) ⟨by first | omega | (unfold mP; omega), trivial⟩).trans ((wt_st hk4 (by omega) ⟨by first | omega | (unfold mP; omega), trivial⟩).trans ((h7 u (by omega)).trans (hst u hu)))
        have hw5 : w = 1 → W3 = none ∧ mulO o o3 ∈ ordN n ∧ ∀ i, i < 5 → r5.1 (mP 38 0 + (6 * dep + (i + 1))) = Int32.ofNat (nthO (mulO o o3) i) := fun h => by
          obtain ⟨a1, a2, a3⟩ := hw1 h
          obtain ⟨b1, b2⟩ := h5.2 h
          refine ⟨h4 h, mulO_in hn hn5 a2 b1, fun i hi => ?_⟩
          have hpi : pv i = nthO o3 i := by
            have g1 := pvv i hi
            rw [b2 i hi] at g1
            exact (n32_inj (by have := nth_inv hn hn5 b1 hi; omega) (by have := pv5 i hi; omega) g1).symm
          have h1i : 1 ≤ nthO o3 i := by
            have h := allL_ok (lAll_ok ORDS_tab o3 (ordN_in b1)) i hi
            rw [Bool.and_eq_true] at h
            exact Nat.le_of_ble_eq_true h.1
          have h5i := nth_inv hn hn5 b1 hi
          rw [e5 i hi, h7 _ (by omega), mul_get (ord_len b1) hi, hpi]
          have := a3 (nthO o3 i - 1) (by omega)
          rw [show nthO o3 i - 1 + 1 = nthO o3 i by omega] at this
          exact this
        refine hFC.2 93 96 213 5 _ [.ref (al 0)] [] _ _ ⟨_, _, rfl, rfl⟩ rfl (by decide) rfl (gRecv_t (by omega) rfl rfl) (c_here l (by omega) hz h2 u1 u2) (fun v1 w2 h => ?_)
        obtain ⟨rfl, rfl⟩ := h
        by_cases h42 : txB z B q3 = 42
        · rw [h42]
          have hq4 : q3 < z := by
            by_cases h : q3 < z
            · exact h
            · unfold txB at h42
              rw [if_neg h] at h42
              cases h42
          have hbq : B q3 = 42 := by
            unfold txB at h42
            rw [if_pos hq4] at h42
            exact h42
          have g := g_segU hFC (r := r5) (vs := []) (al := al) (cy := cy) (rest := rest) (by omega) tMv_ok cC_M sPa_nil oM_nil (allL_ok q_txD dep (by omega)) (fun m0 pc L st pa m8 hk2 hp2 hkp0 => ?_) (fun m0 v pa m1 hk2 => nomatch hk2)
          · rw [lt, lc, lc] at g
            simp only [List.map_cons, List.map_nil, sVal, sI_c] at g
            exact g
          rw [Bool.and_eq_true] at hk2
          obtain ⟨rfl, rfl, rfl⟩ := kAt_ok hk2.1
          have hk7 : kpC (cRg [(282666, 282666)]) 69 45 tMv r5 _ := hkp0
          have e7 := (isE_ok (b := 69) (r := uM r5 []) (by first | decide | omega) hk2.2).trans (sI_add1 u2 (by decide))
          generalize eOf 69 (uM r5 []) m8 = r6 at hk7 e7
          rw [lt, lc, lc]
          simp only [List.map_cons, List.map_nil, sVal, sI_c]
          refine wk4 (ih (q3 + 1) r6 (mulO o o3) s3 f3 W3 (by omega) (by omega) (by omega) (kpC_trans hk6 (cRg_w hk7 ⟨⟨282666, 282666, by simp [CHS], by omega, by omega⟩, trivial⟩)) ⟨TMr_st hz hk7 ⟨by first | omega | (unfold mP; omega), trivial⟩ ⟨by first | omega | (unfold mP; omega), trivial⟩ ⟨by first | omega | (unfold mP; omega), trivial⟩ (fun i hi => ⟨by first | omega | (unfold mP; omega), trivial⟩) u1, e7, MOp_st hk7 (by omega) ⟨by first | omega | (unfold mP; omega), trivial⟩ (fun i hi => ⟨⟨by first | omega | (unfold mP; omega), trivial⟩, ⟨by first | omega | (unfold mP; omega), trivial⟩⟩) u3, (kpR hk7 (vM_0 46 (by simp)) ⟨by first | omega | (unfold mP; omega), trivial⟩).trans u4, W5_st hk7 (fun i hi => ⟨by first | omega | (unfold mP; omega), trivial⟩) u5, L5_st hk7 (fun i hi => ⟨by first | omega | (unfold mP; omega), trivial⟩) u6⟩ (fun u hu => (wt_st hk7 (by omega) ⟨by first | omega | (unfold mP; omega), trivial⟩).trans (hst5 u hu)) (txGo_trans hgo (txGo_trans h3 (txGo_one ?_))) (fun h => ⟨(hw5 h).1, (hw5 h).2.1, fun i hi => (wt_st hk7 (by omega) ⟨by first | omega | (unfold mP; omega), trivial⟩).trans ((hw5 h).2.2 i hi)⟩))
          show tx3 _ (B q3) = _
          unfold tx3
          rw [hbq, if_pos rfl]
        · have hq := allL_ok (allL_ok q_txF dep (by omega)) (txB z B q3) (txB_lt hB)
          rw [Bool.or_eq_true] at hq
          rcases hq with hq | hq
          · exact absurd (Nat.eq_of_beq_eq_true hq) h42
          have g := g_segU hFC (r := r5) (vs := []) (al := al) (cy := cy) (rest := rest) (by omega) tMv_ok cC_M sPa_nil oM_nil hq (fun m0 pc L st pa m8 hk2 => nomatch hk2) (fun m0 v pa m8 hk2 hp2 hkp0 => ?_)
          · rw [lt, lc, lc] at g
            simp only [List.map_cons, List.map_nil, sVal, sI_c] at g
            exact g
          rw [Bool.and_eq_true, Bool.or_eq_true] at hk2
          have hk7 : kpC (cRg [(282666, 282666)]) 69 45 tMv r5 _ := hkp0
          have e7 : (eOf 69 (uM r5 []) m8).1 (mP 0 42) = Int32.ofNat q3 := by
            rcases hk2.2 with hk2 | hk2
            · refine (isE_ok (b := 69) (r := uM r5 []) (by first | decide | omega) hk2).trans ?_
              show (sD _ _).1 = _
              rw [sD_b]
              show sI _ (.var (nat_lit 282666)) + sI _ (.natCast 0) = _
              rw [uMv (by decide), sI_c, show r5.1 282666 = Int32.ofNat q3 from u2, ← Int32.ofNat_add]
              rfl
            · exact (eU_v (by first | decide | omega) (by decide) hk2).trans u2
          generalize eOf 69 (uM r5 []) m8 = r6 at hk7 e7
          exact ⟨r6, rfl, Or.inl ⟨vI_ok hk2.1, kpC_trans hk6 (cRg_w hk7 ⟨⟨282666, 282666, by simp [CHS], by omega, by omega⟩, trivial⟩), q3, mulO o o3, s3, f3, W3, by omega, h2, txGo_trans hgo h3, h42, fun h => ⟨(hw5 h).1, (hw5 h).2.1, fun i hi => (wt_st hk7 (by omega) ⟨by first | omega | (unfold mP; omega), trivial⟩).trans ((hw5 h).2.2 i hi)⟩, ⟨TMr_st hz hk7 ⟨by first | omega | (unfold mP; omega), trivial⟩ ⟨by first | omega | (unfold mP; omega), trivial⟩ ⟨by first | omega | (unfold mP; omega), trivial⟩ (fun i hi => ⟨by first | omega | (unfold mP; omega), trivial⟩) u1, e7, MOp_st hk7 (by omega) ⟨by first | omega | (unfold mP; omega), trivial⟩ (fun i hi => ⟨⟨by first | omega | (unfold mP; omega), trivial⟩, ⟨by first | omega | (unfold mP; omega), trivial⟩⟩) u3, (kpR hk7 (vM_0 46 (by simp)) ⟨by first | omega | (unfold mP; omega), trivial⟩).trans u4, W5_st hk7 (fun i hi => ⟨by first | omega | (unfold mP; omega), trivial⟩) u5, L5_st hk7 (fun i hi => ⟨by first | omega | (unfold mP; omega), trivial⟩) u6⟩, fun u hu => (wt_st hk7 (by omega) ⟨by first | omega | (unfold mP; omega), trivial⟩).trans (hst5 u hu)⟩⟩
      have inner : ∀ (k i : Nat) (r4 : sE), i + k = 5 → i < 5 → kpC (cRg [(360449, 360453)]) 69 45 tMv r3 r4 → (∀ j, j < i → r4.1 (mP 19 1 + j) = r3.1 (mP 38 0 + (6 * dep + pv j))) → At 34 [some (.ref (al 0)), some (.int (Int32.ofNat dep)), some (.int (Int32.ofNat 1)), some (.int (Int32.ofNat (i + 1)))] [] (tW r4 al cy rest 45 tMv) := by
        intro k
        induction k with
        | zero => intro i r4 hk hi; omega
        | succ k ihk =>
          intro i r4 hk hi hk4 he4
          have hpi : r4.1 (mP 39 (Nat.succ i)) = Int32.ofNat (pv i) := (kpR hk4 (vM_r.2.2.2 (i + 1) (by omega)).1 ⟨by first | omega | (unfold mP; omega), trivial⟩).trans (Eq.trans (congrArg r3.1 (by unfold mP; omega)) (pvv i hi))
          have g := g_segU hFC (r := r4) (vs := []) (al := al) (cy := cy) (rest := rest) (by omega) tMv_ok cC_M sPa_nil (oM_cons (uMc (by unfold mP; omega) hpi) oM_nil) (allL_ok (allL_ok (allL_ok q_txA dep (by omega)) i hi) (pv i) (by have := pv5 i hi; omega)) (fun m0 pc L st pa m9 hk2 hp2 hkp0 => ?_) (fun m0 v pa m1 hk2 => nomatch hk2)
          · rw [lt, lc, lc] at g
            exact g
          rw [Bool.and_eq_true] at hk2
          obtain ⟨rfl, rfl, rfl⟩ := kAt_ok hk2.1
          have hk5 : kpC (cRg [(360449 + i, 360449 + i)]) 69 45 tMv r4 _ := hkp0
          have e5 := eU_v (b := 69) (r := r4) (vs := []) (by first | decide | omega) (show 438272 + (6 * dep + pv i) < 819290 by have := pv5 i hi; omega) hk2.2
          generalize eOf 69 (uM r4 []) m9 = r5 at hk5 e5
          have hk6 : kpC (cRg [(360449, 360453)]) 69 45 tMv r3 r5 := kpC_trans hk4 (cRg_w hk5 ⟨⟨360449, 360453, by simp, by omega, by omega⟩, trivial⟩)
          have he5 : ∀ j, j < i + 1 → r5.1 (mP 19 1 + j) = r3.1 (mP 38 0 + (6 * dep + pv j)) := fun j hj => by
            by_cases hji : j = i
            · subst hji
              rw [show mP 19 1 + j = 4096 * (69 + 19) + Nat.succ j by unfold mP; omega]
              refine e5.trans ?_
              refine Eq.trans (congrArg r4.1 (show 438272 + (6 * dep + pv j) = mP 38 0 + (6 * dep + pv j) by unfold mP; omega)) (wt_st hk4 (by have := pv5 j hi; omega) ⟨by first | omega | (unfold mP; omega), trivial⟩)
            · have := kpR hk5 (vM_r.2.2.2 (1 + j) (by omega)).2.1 ⟨by first | omega | (unfold mP; omega), trivial⟩
              rw [show mP 19 1 + j = mP 19 (1 + j) by unfold mP; omega, this, ← he4 j (by omega)]
              exact congrArg r4.1 (by unfold mP; omega)
          rw [lt, lc, lc]
          by_cases h4i : i = 4
          · subst h4i
            exact fin r5 hk6 he5
          · have g2 := g_pure hFC (r := uM r5 []) (al := al) (w := tW r5 al cy rest 45 tMv) sPa_nil (allL_ok (allL_ok q_txB dep (by omega)) i (by omega)) (fun pc L st hk => ?_) (fun v hk => nomatch hk)
            · rw [lt, lc, lc] at g2
              exact g2
            obtain ⟨rfl, rfl, rfl⟩ := kAt_ok hk
            rw [lt, lc, lc]
            exact ihk (i + 1) r5 (by omega) (by omega) hk6 he5
      exact inner 5 0 r3 rfl (by omega) kpC_rfl (fun j hj => absurd hj (by omega))
  have g := g_segU hFC (r := r) (vs := []) (al := al) (cy := cy) (rest := rest) (by omega) tMv_ok cC_M sPa_nil oM_nil (allL_ok q_tx0 dep (by omega)) (fun m0 pc L st pa m hk2 hp2 hkp0 => ?_) (fun m0 v pa m1 hk2 => nomatch hk2)
  · exact g
  rw [Bool.and_eq_true] at hk2
  obtain ⟨rfl, rfl, rfl⟩ := kAt_ok hk2.1
  have hkp : kpC (cRg [(438273 + 6 * dep, 438277 + 6 * dep)]) 69 45 tMv r _ := hkp0
  have e1 : ∀ i, i < 5 → (eOf 69 (uM r []) m).1 (mP 38 0 + (6 * dep + (i + 1))) = Int32.ofNat (i + 1) := fun i hi => by
    rw [show mP 38 0 + (6 * dep + (i + 1)) = 4096 * (69 + 38) + (6 * dep + (i + 1)) by unfold mP; omega]
    exact eU_c (by first | decide | omega) (allL_ok hk2.2 i hi)
  generalize eOf 69 (uM r []) m = r2 at hkp e1
  rw [lt, lc]
  simp only [List.map_cons, List.map_nil, sVal, sI_c]
  obtain ⟨t1, t2, t3, t4, t5, t6⟩ := hS
  exact loop z p r2 txI s f W (by omega) (Nat.le_refl _) hp (cRg_w hkp ⟨⟨438272, 442373, by simp [CHS], by omega, by omega⟩, trivial⟩) ⟨TMr_st hz hkp ⟨by first | omega | (unfold mP; omega), trivial⟩ ⟨by first | omega | (unfold mP; omega), trivial⟩ ⟨by first | omega | (unfold mP; omega), trivial⟩ (fun i hi => ⟨by first | omega | (unfold mP; omega), trivial⟩) t1, (kpR hkp (vM_0 42 (by simp)) ⟨by first | omega | (unfold mP; omega), trivial⟩).trans t2, MOp_st hkp (by omega) ⟨by first | omega | (unfold mP; omega), trivial⟩ (fun i hi => ⟨⟨by first | omega | (unfold mP; omega), trivial⟩, ⟨by first | omega | (unfold mP; omega), trivial⟩⟩) t3, (kpR hkp (vM_0 46 (by simp)) ⟨by first | omega | (unfold mP; omega), trivial⟩).trans t4, (fun i hi hc => by
    by_cases h : 6 * dep < i ∧ i < 6 * dep + 6
    · have := e1 (i - 6 * dep - 1) (by omega)
      rw [show 6 * dep + (i - 6 * dep - 1 + 1) = i by omega] at this
      exact le5_of (by omega) this
    · exact le5_st (wt_st hkp hi ⟨by first | omega | (unfold mP; omega), trivial⟩) (t5 i hi (by omega))), L5_st hkp (fun i hi => ⟨by first | omega | (unfold mP; omega), trivial⟩) t6⟩ (fun u hu => wt_st hkp (by omega) ⟨by first | omega | (unfold mP; omega), trivial⟩) txGo_rfl (fun h => ⟨hW h, txI_in hn hn5, fun i hi => by rw [e1 i hi, txI_get hi]⟩)
end RP
