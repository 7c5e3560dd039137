/-! 44: a register made otherwise: the class' makeOtherwise, the model's becomes, by contract -/
theorem gRecv_t {mi : Nat} {r : sE} {al : Nat → Nat} {cy : Nat → ClassId} {rest : va_W} {n ci : Nat} {t : Nat → sC} {vs : List sV} {as1 : List Value} (hn : 0 < n) (ht : t 0 = (0, ci, vs)) (hc : (PG mi).2.2.2.1 = ci) : gRecv mi (.ref (al 0) :: as1) (tW r al cy rest n t) := by
  refine Or.inr ⟨al 0, as1, 0, vs.map (sVal r al), rfl, ?_⟩
  unfold tW
  rw [List.getElem?_append_left (by simpa using hn), List.getElem?_map, List.getElem?_range hn]
  show some (al 0, sCe r al cy (fun x => Sum.inr (0, [])) (t 0)) = _
  rw [ht, hc]
  rfl
/-- the end of a method: what is on the stack is its answer -/
theorem g_ret {l : Launch} {D : va_G} {cy : Nat → ClassId} {al : Nat → Nat} {k d pc : Nat} {Rt : Option Value → va_W → Prop} {At : gAt} (hFC : gFC l D cy al k d Rt At) {r : sE} {L : sL} {st : List sV} {w : va_W} {v : Option Value} {fuel : Nat} {ck : Option sV → Bool} (h : sx PG fuel d (PG k) (fun _ => false) (fun _ _ _ _ _ => false) (fun v _ m => Bool.and (eqL eqC m []) (ck v)) pc L st [] [] = true) (hv : ∀ v0, ck v0 = true → v0.map (sVal r al) = v) (hR : Rt v w) : At pc (L.map (Option.map (sVal r al))) (st.map (sVal r al)) w := by
  have key := hFC.1 r hid0 w fuel (fun _ => false) (fun _ _ _ _ _ => false) _ pc L st [] [] h sPa_nil (fun _ _ _ _ _ q => nomatch q) (fun v0 pa m h1 _ => by
    rw [Bool.and_eq_true] at h1
    have e := eqL_ok eqC_ok _ _ h1.1
    subst e
    rw [hv _ h1.2]
    exact hR)
  exact key
/-- what the path says of an equation -/
noncomputable def paY (x y : sX) (pa : List sK) : Bool := sAsk true x y true false false pa
noncomputable def paN (x y : sX) (pa : List sK) : Bool := sAsk true x y false true false pa
theorem paY_ok {r : sE} {pa : List sK} {x y : sX} (hp : sPa r pa) (h : paY x y pa = true) : sI r x = sI r y := by
  rcases sAsk_ok (r := r) hp h with ⟨h1, -⟩ | ⟨-, h⟩ | h
  · exact h1
  · cases h
  · cases h
theorem paN_ok {r : sE} {pa : List sK} {x y : sX} (hp : sPa r pa) (h : paN x y pa = true) : ¬ sI r x = sI r y := by
  rcases sAsk_ok (r := r) hp h with ⟨-, h⟩ | ⟨h, -⟩ | h
  · cases h
  · exact h
  · cases h
noncomputable def vB : Nat := nat_lit 819290
/-- an int at a place of a memory is e -/
noncomputable def isE (mem : sM) (i j : Nat) (e0 : sX) : Bool := gI mem i j (fun e => eqX e e0)
theorem isE_ok {b : Nat} {r : sE} {mem : sM} {i j : Nat} {e0 : sX} (hj : j < 4096) (h : isE mem i j e0 = true) : (eOf b r mem).1 (4096 * (b + i) + j) = sI r e0 := by
  obtain ⟨⟨kd, u, vs⟩, h1, h2⟩ := sGet_ok _ _ _ h
  rw [Bool.and_eq_true] at h2
  obtain ⟨v, h3, h4⟩ := sGet_ok _ _ _ h2.2
  obtain ⟨e, rfl, h5⟩ := sVI_ok h4
  rw [(eOf_i (b := b) (r := r) h1 (Nat.le_of_ble_eq_true h2.1) hj).1, h3, ← eqX_ok _ _ h5]
  rfl
/-- the steps behind a push, class: places of the registers' numbers, of the orders -/
noncomputable def pshX (z q : Nat) (x : sM) : Bool := Bool.rec (motive := fun _ => Bool)
  (Bool.and (isE x (nat_lit 44) (nat_lit 0) (.natCast (Nat.succ z))) (Bool.and (isE x (nat_lit 45) z (.natCast q)) (isE x (nat_lit 46) z (.var (Nat.add (nat_lit 139264) q)))))
  (Bool.and (isE x (nat_lit 44) (nat_lit 0) (.natCast (nat_lit 10))) (Bool.and (Bool.and (isE x (nat_lit 45) (nat_lit 9) (.natCast q)) (isE x (nat_lit 46) (nat_lit 9) (.var (Nat.add (nat_lit 139264) q)))) (allL (nat_lit 9) (fun i => Bool.and (isE x (nat_lit 45) i (.var (Nat.add (nat_lit 184321) i))) (isE x (nat_lit 46) i (.var (Nat.add (nat_lit 188417) i)))))))
  (Nat.beq z (nat_lit 10))
noncomputable def chX (z q u : Nat) : Bool := Bool.or (memB [Nat.add (nat_lit 139264) q, nat_lit 180224] u) (Bool.rec (motive := fun _ => Bool) (memB [Nat.add (nat_lit 184320) z, Nat.add (nat_lit 188416) z] u) (memB [nat_lit 45, nat_lit 46] (Nat.div u (nat_lit 4096))) (Nat.beq z (nat_lit 10)))
noncomputable def ckMk (z q : Nat) (x0 : sM) (pa : List sK) (x : sM) : Bool := Bool.or (Bool.and (paY (.var (Nat.add (nat_lit 139264) q)) (.var vB) pa) (frM (nat_lit 0) (chN []) x0 (nat_lit 0) x)) (Bool.and (Bool.and (paN (.var (Nat.add (nat_lit 139264) q)) (.var vB) pa) (frM (nat_lit 0) (chX z q) x0 (nat_lit 0) x)) (Bool.and (isE x (nat_lit 34) q (.var vB)) (pshX z q x)))
noncomputable def KXm : Nat → Bool := memB [nat_lit 0, nat_lit 34, nat_lit 44, nat_lit 45, nat_lit 46]
noncomputable def LMk (q : Nat) : sL := [some (.inr (.inr (some (nat_lit 0)))), some (.inl (.natCast q)), some (.inl (.var vB))]
theorem q_mk : allL 11 (fun z => allL 4 (fun q => sBeg (nat_lit 0) (nat_lit 68) tXv KXm [(nat_lit 44, nat_lit 0, .natCast z)] (fun x0 => sx PG (nat_lit 10000) (nat_lit 5) (PG (nat_lit 126)) (fun pc => Nat.beq pc (nat_lit 32)) (fun pc L st pa x => Bool.and (Nat.beq pc (nat_lit 32)) (Bool.and (Bool.and (eqL eqO L (LMk q)) (eqL eqV st [.inl (.var vB)])) (Bool.and (fitM (nat_lit 0) (nat_lit 68) tXv KXm x) (ckMk z q x0 pa x)))) (fun _ _ _ => false) (nat_lit 0) (LMk q) [] [] x0))) = true := by decide +kernel
theorem q_mkE : allL 4 (fun q => sEnt [.inr (.inr (some (nat_lit 0))), .inl (.natCast q), .inl (.var vB)] (PG (nat_lit 126)).2.1 (fun L => eqL eqO L (LMk q))) = true := by decide +kernel
theorem q_mkR : allL 11 (fun n => allL 4 (fun q => sx PG (nat_lit 10) (nat_lit 5) (PG (nat_lit 126)) (fun _ => false) (fun _ _ _ _ _ => false) (fun v _ m => Bool.and (eqL eqC m []) (eqO v (some (.inl (.natCast n))))) (nat_lit 35) (LMk q) [.inl (.natCast n)] [] [])) = true := by decide +kernel
theorem c_mk (l : Launch) {D : va_G} {cy : Nat → ClassId} {al : Nat → Nat} {rest : va_W} {r : sE} {d q z : Nat} {o : List Nat} (hd : 5 ≤ d) (hq : q < 4) (hz : z ≤ 10) (h44 : r.1 (xP 44 0) = Int32.ofNat z) (ho : o ∈ ORDS) (hb : r.1 vB = Int32.ofNat (ocode o)) :
    gMet l D cy al d 126 (tW r al cy rest 68 tXv) [.ref (al 0), .int (Int32.ofNat q), .int (Int32.ofNat (ocode o))] (fun v w2 => v = some (.int (Int32.ofNat (lenO o))) ∧ ∃ x0 pa x, ovP r al 68 tXv KXm x0 ∧ sPa r pa ∧ fitM 0 68 tXv KXm x = true ∧ ckMk z q x0 pa x = true ∧ w2 = tW (eOf 0 r x) al cy rest 68 tXv) := by
  refine gMet_up hd ?_
  have hrun := allL_ok (allL_ok q_mk z (by omega)) q hq
  unfold sBeg at hrun
  rw [Bool.and_eq_true] at hrun
  have hP := ovP_ovr (b := 0) (ovP_msk (r := r) (al := al) (n := 68) (t := tXv) (K := KXm)) _ hrun.1 (oX_cons (by rw [sI_c]; exact h44) oX_nil)
  have hw := ovP_w (cy := cy) (rest := rest) (fun i hi => (tXv_can i hi).1) hP
  have key := gMet_of (l := l) (D := D) (cy := cy) (al := al) (d := 5) (k := 126) (w := tW r al cy rest 68 tXv) (r := r) (G := fun v w2 => v = some (.int (Int32.ofNat (lenO o))) ∧ ∃ x0 pa x, ovP r al 68 tXv KXm x0 ∧ sPa r pa ∧ fitM 0 68 tXv KXm x = true ∧ ckMk z q x0 pa x = true ∧ w2 = tW (eOf 0 r x) al cy rest 68 tXv) (allL_ok q_mkE q hq) (fun At hFC => ?_)
  · simp only [List.map_cons, List.map_nil, sVal, sI_c, sI_v, hb] at key
    exact key
  rw [← hw]
  refine hFC.1 r _ rest _ _ _ _ 0 (LMk q) [] [] _ hrun.2 sPa_nil (fun pc L st pa x hk hp => ?_) (fun _ _ _ q => nomatch q)
  simp only [Bool.and_eq_true] at hk
  obtain ⟨k1, ⟨k2, k3⟩, k4, k5⟩ := hk
  have e1 : pc = 32 := Nat.eq_of_beq_eq_true k1
  have e2 := eqL_ok (fun _ _ => eqO_ok) _ _ k2
  have e3 := eqL_ok (fun _ _ => eqV_ok) _ _ k3
  subst e1 e2 e3
  rw [fit_w k4 (fun i hi hK => ⟨rfl, (tXv_can i hi).2⟩)]
  have hl : lenO o ≤ 10 := Nat.le_of_ble_eq_true (lAll_ok lenO_tab o ho)
  have es : List.map (sVal r al) [.inl (.var vB)] = ([.int (Int32.ofNat (ocode o))] : List Value).reverse ++ [] := by
    simp only [List.map_cons, List.map_nil, sVal, sI_v, hb]
    rfl
  rw [es]
  refine hFC.2 32 35 11 4 _ [.int (Int32.ofNat (ocode o))] [] _ _ ⟨_, _, rfl, rfl⟩ rfl (by decide) rfl (Or.inl rfl) (c_len l (by omega) ho) (fun v w2 h => ?_)
  obtain ⟨rfl, rfl⟩ := h
  have kr := g_ret (v := some (.int (Int32.ofNat (lenO o)))) hFC (r := r) (w := tW (eOf 0 r x) al cy rest 68 tXv) (allL_ok (allL_ok q_mkR (lenO o) (by omega)) q hq) (fun v0 h0 => by
    rw [eqO_ok h0]
    show some (Value.int (sI r (.natCast (lenO o)))) = _
    rw [sI_c]) ⟨rfl, _, pa, x, hP, hp, k4, k5, rfl⟩
  rw [show List.map (sVal r al) [.inl (.natCast (lenO o))] = [Value.int (Int32.ofNat (lenO o))] by simp only [List.map_cons, List.map_nil, sVal, sI_c]] at kr
  exact kr
