/-! 34: the state behind an operation: what is touched, what stands -/
noncomputable def crJ (KX KM Ch : Nat → Bool) : Bool := allL (nat_lit 18) (fun c => Bool.and (crC (nat_lit 0) (tX c) KX Ch (nat_lit 68)) (crC (nat_lit 69) (tM c) KM Ch (nat_lit 45)))
theorem cC_eJx {r : sE} {x m : sM} {t : Nat → sC} (ht : tOk 0 68 t tXv) (h : cC 0 68 t (eOf 0 r x)) : cC 0 68 t (eJ r x m) := fun i hi j k => by
  have h4 : ∀ y, (t i).2.2[j]? = some y → j < 4096 := fun y hy => by
    have k3 := (ht i hi).1.2
    unfold fitC at k3
    simp only [Bool.and_eq_true] at k3
    have g4 : (t i).2.2.length ≤ 4096 := by rw [← sLn_ok]; exact Nat.le_of_ble_eq_true k3.2.2.2.1
    exact Nat.lt_of_lt_of_le (List.getElem?_eq_some_iff.mp hy).1 g4
  have e : ∀ v, v / 4096 < 69 → (eJ r x m).1 v = (eOf 0 r x).1 v ∧ (eJ r x m).2 v = (eOf 0 r x).2 v := fun v hv => by
    unfold eJ
    simp only [if_pos hv]
    exact ⟨trivial, trivial⟩
  exact ⟨fun hy => by have := h4 _ hy; rw [(e _ (by omega)).1]; exact (h i hi j k).1 hy, fun hy => by have := h4 _ hy; rw [(e _ (by omega)).2]; exact (h i hi j k).2 hy⟩
theorem cC_eJm {r : sE} {x m : sM} {t : Nat → sC} (h : cC 69 45 t (eOf 69 r m)) : cC 69 45 t (eJ r x m) := fun i hi j k => by
  have e : ∀ v, ¬ v / 4096 < 69 → (eJ r x m).1 v = (eOf 69 r m).1 v ∧ (eJ r x m).2 v = (eOf 69 r m).2 v := fun v hv => by
    unfold eJ
    simp only [if_neg hv]
    exact ⟨trivial, trivial⟩
  exact ⟨fun hy => by rw [(e _ (by omega)).1]; exact (h i hi j k).1 hy, fun hy => by rw [(e _ (by omega)).2]; exact (h i hi j k).2 hy⟩
/-- an operation that doesn't look at the shape's rows -/
theorem Inv_touch {r : sE} {alX alM : Nat → Nat} {KX KM Ch T : Nat → Bool} {x0 m0 x m : sM} (hcr : crJ KX KM Ch = true) (hCh : ∀ id, id < 12 → T id = false → lAll (fun u => Bool.not (Ch u)) (cPl id) = true)
    (hx0 : ovP r alX 68 tXv KX x0) (hm0 : ovP r alM 45 tMv KM m0) (hx : fitM 0 68 tXv KX x = true) (hm : fitM 69 45 tMv KM m = true) (hf : frJ Ch x0 m0 x m = true) (hI : Inv r)
    (hnew : ∀ c, c < 18 → CC c r → (∀ id, id < 12 → Comp id c r) → ∀ id, id < 12 → T id = true → Comp id c (eJ r x m)) : Inv (eJ r x m) := by
  obtain ⟨c, hc, ⟨h1, h2⟩, h3⟩ := hI
  have hcc := allL_ok hcr c hc
  have hf2 := hf
  unfold frJ at hf2
  rw [Bool.and_eq_true] at hcc hf2
  refine ⟨c, hc, ⟨cC_eJx (tX_ok hc) (crC_ok hcc.1 (tX_ok hc) tXv_ok (cv_gen (tX_ok hc)) hx0 hx hf2.1 h1), cC_eJm (crC_ok hcc.2 (tM_ok hc) tMv_ok (cv_gen (tM_ok hc)) hm0 hm hf2.2 h2)⟩, fun id hid => ?_⟩
  cases hT : T id with
  | true => exact hnew c hc ⟨h1, h2⟩ h3 id hid hT
  | false => exact frJ_comp rfl tXv_ok tMv_ok vPl_v hx0 hm0 hx hm hf hid (hCh id hid hT) (h3 id hid)
/-- an operation at the shape c, that leaves it -/
theorem Inv_touch_c {r : sE} {c : Nat} {alX alM : Nat → Nat} {KX KM Ch T : Nat → Bool} {x0 m0 x m : sM} (hc : c < 18) (hCh : ∀ id, id < 12 → T id = false → lAll (fun u => Bool.not (Ch u)) (cPl id) = true)
    (hx0 : ovP r alX 68 (tX c) KX x0) (hm0 : ovP r alM 45 (tM c) KM m0) (hx : fitM 0 68 (tX c) KX x = true) (hm : fitM 69 45 (tM c) KM m = true) (hf : frJ Ch x0 m0 x m = true) (h3 : ∀ id, id < 12 → Comp id c r)
    (h1 : cC 0 68 (tX c) (eOf 0 r x)) (h2 : cC 69 45 (tM c) (eOf 69 r m))
    (hnew : ∀ id, id < 12 → T id = true → Comp id c (eJ r x m)) : Inv (eJ r x m) := by
  refine ⟨c, hc, ⟨cC_eJx (tX_ok hc) h1, cC_eJm h2⟩, fun id hid => ?_⟩
  cases hT : T id with
  | true => exact hnew id hid hT
  | false => exact frJ_comp rfl (tX_ok hc) (tM_ok hc) (vPl_c hc) hx0 hm0 hx hm hf hid (hCh id hid hT) (h3 id hid)
/-- nothing, or the shelf s (and scratch cells) -/
noncomputable def chN (sc : List Nat) (u : Nat) : Bool := memB sc (Nat.div u (nat_lit 4096))
noncomputable def chS (sc : List Nat) (s u : Nat) : Bool := Bool.or (chN sc u) (Bool.or (Nat.beq (Nat.div u (nat_lit 4096)) (Nat.add (nat_lit 36) (Nat.mul (nat_lit 2) s))) (Bool.or (Nat.beq (Nat.div u (nat_lit 4096)) (Nat.add (nat_lit 37) (Nat.mul (nat_lit 2) s))) (Bool.or (Nat.beq u (Nat.add (nat_lit 311296) s)) (Bool.or (Nat.beq u (Nat.add (nat_lit 315392) s)) (Bool.and (Nat.ble (Nat.add (nat_lit 319488) (Nat.mul (nat_lit 20) s)) u) (Nat.ble (Nat.succ u) (Nat.add (nat_lit 319508) (Nat.mul (nat_lit 20) s))))))))
noncomputable def KXs (s : Nat) : Nat → Bool := memB [nat_lit 0, nat_lit 1, nat_lit 35, Nat.add (nat_lit 36) (Nat.mul (nat_lit 2) s), Nat.add (nat_lit 37) (Nat.mul (nat_lit 2) s)]
noncomputable def KMs : Nat → Bool := memB [nat_lit 0, nat_lit 7, nat_lit 8, nat_lit 9]
noncomputable def ckSh (sc : List Nat) (s : Nat) (x0 m0 : sM) (pa : List sK) (x m : sM) : Bool := Bool.or (frJ (chN sc) x0 m0 x m) (Bool.and (frJ (chS sc s) x0 m0 x m) (ckS pa x m (Nat.add (nat_lit 36) (Nat.mul (nat_lit 2) s)) (Nat.add (nat_lit 37) (Nat.mul (nat_lit 2) s)) (nat_lit 7) (nat_lit 8) (nat_lit 9) s))
theorem chN_ok : allL 12 (fun id => lAll (fun u => Bool.not (chN [] u)) (cPl id)) = true := by decide +kernel
theorem chS_ok : allL 4 (fun s => allL 12 (fun id => Bool.or (Nat.beq id (4 + s)) (lAll (fun u => Bool.not (chS [] s u)) (cPl id)))) = true := by decide +kernel
theorem crJ_S : allL 4 (fun s => Bool.and (crJ (KXs s) KMs (chN [])) (crJ (KXs s) KMs (chS [] s))) = true := by decide +kernel
/-- behind an operation on the shelf s -/
theorem Inv_Sh {r : sE} {alX alM : Nat → Nat} {s : Nat} {x0 m0 x m : sM} {pa : List sK} (hs : s < 4) (hx0 : ovP r alX 68 tXv (KXs s) x0) (hm0 : ovP r alM 45 tMv KMs m0) (hx : fitM 0 68 tXv (KXs s) x = true) (hm : fitM 69 45 tMv KMs m = true) (hp : sPa r pa) (h : ckSh [] s x0 m0 pa x m = true) (hI : Inv r) : Inv (eJ r x m) := by
  have hcr := allL_ok crJ_S s hs
  rw [Bool.and_eq_true] at hcr
  unfold ckSh at h
  rw [Bool.or_eq_true] at h
  rcases h with h | h
  · exact Inv_touch (T := fun _ => false) hcr.1 (fun id hid _ => allL_ok chN_ok id hid) hx0 hm0 hx hm h hI (fun c hc h1 h2 id hid q => nomatch q)
  · rw [Bool.and_eq_true] at h
    refine Inv_touch (T := fun id => Nat.beq id (4 + s)) hcr.2 (fun id hid q => ?_) hx0 hm0 hx hm h.1 hI (fun c hc h1 h2 id hid q => ?_)
    · have := allL_ok (allL_ok chS_ok s hs) id hid
      rw [q] at this
      exact this
    · have e : id = 4 + s := Nat.eq_of_beq_eq_true q
      subst e
      rw [Comp_S hs]
      exact ckS_ok hp (show 36 + 2 * s < 68 by omega) (show 37 + 2 * s < 68 by omega) hs h.2
theorem sI_c {r : sE} {k : Nat} : sI r (.natCast k) = Int32.ofNat k := by simp only [sI, sD_c]
theorem sI_v {r : sE} {i : Nat} : sI r (.var i) = r.1 i := by simp only [sI, sD_v]
theorem sPa_nil {r : sE} : sPa r [] := fun _ q => absurd q List.not_mem_nil
abbrev oXs (r : sE) (l : List sOv) : Prop := ∀ q ∈ l, r.1 (4096 * (0 + q.1) + q.2.1) = sI r q.2.2
abbrev oMs (r : sE) (l : List sOv) : Prop := ∀ q ∈ l, r.1 (4096 * (69 + q.1) + q.2.1) = sI r q.2.2
theorem oX_nil {r : sE} : oXs r [] := fun _ q => absurd q List.not_mem_nil
theorem oM_nil {r : sE} : oMs r [] := fun _ q => absurd q List.not_mem_nil
theorem oX_cons {r : sE} {i j : Nat} {e : sX} {l : List sOv} (h : r.1 (xP i j) = sI r e) (hl : oXs r l) : oXs r ((i, j, e) :: l) := List.forall_mem_cons.mpr ⟨by
  show r.1 (4096 * (0 + i) + j) = sI r e
  rw [Nat.zero_add]
  exact h, hl⟩
theorem oM_cons {r : sE} {i j : Nat} {e : sX} {l : List sOv} (h : r.1 (mP i j) = sI r e) (hl : oMs r l) : oMs r ((i, j, e) :: l) := List.forall_mem_cons.mpr ⟨h, hl⟩
theorem CC_tab : ∀ c, c < 18 → (eqO (tX c 1).2.2[0]? (some (.inl (.natCast (sCodes.getD c 0)))) = true ∧ eqO (tX c 1).2.2[1]? (some (.inl (.natCast (nOf c)))) = true ∧ eqO (tX c 1).2.2[2]? (some (.inl (.natCast (dOf c)))) = true) ∧ eqO (tM c 0).2.2[1]? (some (.inl (.natCast (nOf c)))) = true ∧ eqO (tM c 0).2.2[4]? (some (.inl (.natCast (dOf c)))) = true := by decide +kernel
/-- code, N and D -/
theorem CC_nd {c : Nat} {r : sE} (hc : c < 18) (h : CC c r) : (r.1 (xP 1 0) = Int32.ofNat (sCodes.getD c 0) ∧ r.1 (xP 1 1) = Int32.ofNat (nOf c) ∧ r.1 (xP 1 2) = Int32.ofNat (dOf c)) ∧ r.1 (mP 0 1) = Int32.ofNat (nOf c) ∧ r.1 (mP 0 4) = Int32.ofNat (dOf c) := by
  obtain ⟨⟨g1, g2, g3⟩, g4, g5⟩ := CC_tab c hc
  exact ⟨⟨(h.1 1 (by omega) 0 _).1 (eqO_ok g1), (h.1 1 (by omega) 1 _).1 (eqO_ok g2), (h.1 1 (by omega) 2 _).1 (eqO_ok g3)⟩, (h.2 0 (by omega) 1 _).1 (eqO_ok g4), (h.2 0 (by omega) 4 _).1 (eqO_ok g5)⟩
theorem cd_tab : ∀ c, c < 18 → (1 ≤ dOf c ∧ dOf c ≤ 6) ∧ 1 ≤ nOf c ∧ nOf c ≤ 5 := by decide +kernel
/-- the sort of a shelf -/
theorem cS_sort {pS pZ pN qS qZ qN : Nat} {r : sE} (h : cS pS pZ pN qS qZ qN r) : ∃ k, k < 3 ∧ r.1 pS = Int32.ofNat k ∧ r.1 qS = Int32.ofNat k := by
  obtain ⟨h1, h2⟩ := h
  rcases h2 with h | ⟨h, -⟩ | ⟨h, -⟩
  · exact ⟨0, by omega, h, h1.trans h⟩
  · exact ⟨1, by omega, h, h1.trans h⟩
  · exact ⟨2, by omega, h, h1.trans h⟩
