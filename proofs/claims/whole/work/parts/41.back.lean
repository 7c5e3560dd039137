/-! 41: back, image (by wip/whole/mk41.py) -/
theorem cR_copy {n pX pM pX2 pM2 : Nat} {r r2 : sE} (h1 : r2.1 pX2 = r.1 pX) (h2 : ∀ i, i < 5 → r2.1 (pM2 + i) = r.1 (pM + i)) (h : cR n pX pM r) : cR n pX2 pM2 r2 := by
  obtain ⟨o, ho, h3, h4⟩ := h
  exact ⟨o, ho, h1.trans h3, fun i hi => (h2 i hi).trans (h4 i hi)⟩
theorem cS_copy {pS pZ pN qS qZ qN pS2 pZ2 pN2 qS2 qZ2 qN2 : Nat} {r r2 : sE} (h1 : r2.1 pS2 = r.1 pS) (h2 : r2.1 pZ2 = r.1 pZ) (h3 : r2.1 qS2 = r.1 qS) (h4 : r2.1 qZ2 = r.1 qZ) (h5 : ∀ j, j < 20 → r2.1 (pN2 + j) = r.1 (pN + j)) (h6 : ∀ j, j < 20 → r2.1 (qN2 + j) = r.1 (qN + j)) (h : cS pS pZ pN qS qZ qN r) : cS pS2 pZ2 pN2 qS2 qZ2 qN2 r2 := by
  obtain ⟨g1, g2⟩ := h
  refine ⟨by rw [h3, h1, g1], ?_⟩
  rcases g2 with g | ⟨g, g3, g4⟩ | ⟨g, ⟨z, g3, g4, g5⟩, g6⟩
  · exact Or.inl (h1.trans g)
  · exact Or.inr (Or.inl ⟨h1.trans g, fun j hj => by rw [h6 j hj, h5 j hj, g3 j hj], fun j hj => by rw [h5 j hj]; exact g4 j hj⟩)
  · exact Or.inr (Or.inr ⟨h1.trans g, ⟨z, g3, h2.trans g4, h4.trans g5⟩, fun j hj => by rw [h6 j hj, h5 j hj, g6 j hj]⟩)
noncomputable def KXb : Nat → Bool := memB [nat_lit 0, nat_lit 34, nat_lit 44, nat_lit 45, nat_lit 46]
noncomputable def KMb : Nat → Bool := memB [nat_lit 0, nat_lit 6, nat_lit 15]
noncomputable def chB (q u : Nat) : Bool := Bool.or (memB [Nat.add (nat_lit 139264) q, nat_lit 180224, nat_lit 282641] u) (Bool.and (Nat.ble (Nat.add (nat_lit 307201) (Nat.mul (nat_lit 6) q)) u) (Nat.ble (Nat.succ u) (Nat.add (nat_lit 307206) (Nat.mul (nat_lit 6) q))))
theorem crJ_b : Bool.and (crJ KXb KMb (chN [])) (allL 4 (fun q => crJ KXb KMb (chB q))) = true := by decide +kernel
theorem chB_ok : allL 4 (fun q => allL 12 (fun id => Bool.or (Bool.or (Nat.beq id q) (Nat.beq id (nat_lit 8))) (lAll (fun u => Bool.not (chB q u)) (cPl id)))) = true := by decide +kernel
theorem chB_T : ∀ q, q < 4 → ∀ i, i < 10 → (chB q (xP 45 i) = false ∧ chB q (mP 15 (6 * i)) = false ∧ chB q (xP 46 i) = false) ∧ ∀ j, j < 5 → chB q (mP 15 (6 * i + 1) + j) = false := by decide +kernel
noncomputable def ckB (z q : Nat) (x0 m0 x m : sM) : Bool := Nat.rec (motive := fun _ => Bool) (frJ (chN []) x0 m0 x m) (fun z1 _ => Bool.and (frJ (chB q) x0 m0 x m) (Bool.and (Bool.and (eqC0 x (nat_lit 44) (nat_lit 0) z1) (eqC0 m (nat_lit 0) (nat_lit 17) z1)) (Bool.and (eqE0 x (nat_lit 34) q (.var (Nat.add (nat_lit 188416) z1))) (allL (nat_lit 5) (fun i => eqE0 m (nat_lit 6) (Nat.add (Nat.add (Nat.mul (nat_lit 6) q) (nat_lit 1)) i) (.var (Nat.add (Nat.add (nat_lit 344065) (Nat.mul (nat_lit 6) z1)) i))))))) z
noncomputable def oXb (z q : Nat) : List sOv := (nat_lit 44, nat_lit 0, .natCast z) :: Nat.rec (motive := fun _ => List sOv) [] (fun z1 _ => [(nat_lit 45, z1, .natCast q)]) z
noncomputable def oMb (z q : Nat) : List sOv := (nat_lit 0, nat_lit 17, .natCast z) :: Nat.rec (motive := fun _ => List sOv) [] (fun z1 _ => [(nat_lit 15, Nat.mul (nat_lit 6) z1, .natCast q)]) z
theorem q_back : allL 11 (fun z => allL 4 (fun q => jRun (nat_lit 100000) (nat_lit 200) tXv tXv tMv tMv (nat_lit 117) (nat_lit 164) KXb KMb (oXb z q) (oMb z q) [] [] (fun x0 m0 pa x m => ckB z q x0 m0 x m))) = true := by decide +kernel
theorem op_back {l : Launch} {D : va_G} {cy : Nat → ClassId} {alX alM : Nat → Nat} : OpI l D cy alX alM 117 164 0 := by
  intro r as hI hlen
  obtain rfl : as = [] := List.length_eq_zero_iff.mp hlen
  refine OpOk_uA [] ?_
  replace hI := Inv_uA (as := []) hI
  generalize uA r [] = r at hI  ⊢
  obtain ⟨c, hc, hcc, hcm⟩ := id hI
  obtain ⟨z, z1, z2, z3, z4⟩ := (show cT (nOf c) r from hcm 8 (by omega))
  have hcr := crJ_b
  rw [Bool.and_eq_true] at hcr
  cases z with
  | zero =>
    refine jOk l tXv_ok tXv_ok tMv_ok tMv_ok (cC_X r) (cC_M r) sPa_nil (fun _ _ _ => rfl) (fun _ _ _ => rfl) (oX_cons (by rw [sI_c]; exact z2) oX_nil) (oM_cons (by rw [sI_c]; exact z3) oM_nil) rfl rfl (allL_ok (allL_ok q_back 0 (by omega)) 0 (by omega)) ?_
    intro x0 m0 pa x m hx0 hm0 hck hp hfx hfm _ _
    exact Inv_0 hcr.1 hx0 hm0 hfx hfm hck hI
  | succ z =>
    obtain ⟨⟨q, q1, q2, q3⟩, hR⟩ := z4 z (by omega)
    refine jOk l tXv_ok tXv_ok tMv_ok tMv_ok (cC_X r) (cC_M r) sPa_nil (fun _ _ _ => rfl) (fun _ _ _ => rfl) (oX_cons (by rw [sI_c]; exact z2) (oX_cons (by rw [sI_c]; exact q2) oX_nil)) (oM_cons (by rw [sI_c]; exact z3) (oM_cons (by rw [sI_c]; exact q3) oM_nil)) rfl rfl (allL_ok (allL_ok q_back (z + 1) (by omega)) q q1) ?_
    intro x0 m0 pa x m hx0 hm0 hck hp hfx hfm _ _
    have hck2 : Bool.and (frJ (chB q) x0 m0 x m) (Bool.and (Bool.and (eqC0 x (nat_lit 44) (nat_lit 0) z) (eqC0 m (nat_lit 0) (nat_lit 17) z)) (Bool.and (eqE0 x (nat_lit 34) q (.var (Nat.add (nat_lit 188416) z))) (allL (nat_lit 5) (fun i => eqE0 m (nat_lit 6) (Nat.add (Nat.add (Nat.mul (nat_lit 6) q) (nat_lit 1)) i) (.var (Nat.add (Nat.add (nat_lit 344065) (Nat.mul (nat_lit 6) z)) i)))))) = true := hck
    simp only [Bool.and_eq_true] at hck2
    obtain ⟨k1, ⟨k2, k3⟩, k4, k5⟩ := hck2
    refine Inv_touch (T := fun id => Bool.or (Nat.beq id q) (Nat.beq id 8)) (allL_ok hcr.2 q q1) (fun id hid g => ?_) hx0 hm0 hfx hfm k1 hI (fun c' hc' h1 h2 id hid g => ?_)
    · have := allL_ok (allL_ok chB_ok q q1) id hid
      rw [show Bool.or (Nat.beq id q) (Nat.beq id (nat_lit 8)) = false from g] at this
      exact this
    · have en : nOf c' = nOf c := by
        have a1 := (CC_nd hc' h1).1.2.1
        have a2 := (CC_nd hc hcc).1.2.1
        have a3 := a1.symm.trans a2
        have b1 := (cd_tab c' hc').2
        have b2 := (cd_tab c hc).2
        have w := congrArg Int32.toInt a3
        simp only [Int32.toInt_ofNat', Int.bmod_def, show ((Int32.size : Nat) : Int) = 4294967296 from rfl] at w
        rw [if_pos (by omega), if_pos (by omega)] at w
        omega
      rw [Bool.or_eq_true] at g
      rcases g with g | g
      · have e : id = q := Nat.eq_of_beq_eq_true g
        subst e
        rw [Comp_R q1, en]
        refine cR_copy ?_ (fun i hi => ?_) hR
        · have := eqE0_x (r := r) (m := m) (show 34 < 68 by omega) (show id < 4096 by omega) k4
          rw [this, sI_v]
          show r.1 (188416 + z) = r.1 (4096 * 46 + z)
          congr 1
        · have := eqE0_m (r := r) (x := x) (show 6 * id + 1 + i < 4096 by omega) (allL_ok k5 i hi)
          have e1 : mP 6 (6 * id + 1 + i) = mP 6 (6 * id + 1) + i := by unfold mP; omega
          rw [← e1, this, sI_v]
          have e2 : mP 15 (6 * z + 1) + i = 344065 + 6 * z + i := by unfold mP; omega
          rw [e2]
          rfl
      · have e : id = 8 := Nat.eq_of_beq_eq_true g
        subst e
        refine ⟨z, by omega, eqC0_x (show 44 < 68 by omega) (show 0 < 4096 by omega) k2, eqC0_m (show 17 < 4096 by omega) k3, fun i hi => ?_⟩
        rw [en]
        obtain ⟨⟨b1, b2, b3⟩, b4⟩ := chB_T q q1 i (by omega)
        obtain ⟨⟨m1, m2, m3⟩, m4⟩ := cPl_T.2 i (by omega)
        obtain ⟨⟨q', p1, p2, p3⟩, p4⟩ := z4 i (by omega)
        have fr : ∀ u ∈ cPl 8, chB q u = false → (eJ r x m).1 u = r.1 u := fun u hu hcu => frJ_place tXv_ok tMv_ok vPl_v hx0 hm0 hfx hfm k1 (show 8 < 12 by omega) hu hcu
        exact ⟨⟨q', p1, (fr _ m1 b1).trans p2, (fr _ m2 b2).trans p3⟩, cR_copy (fr _ m3 b3) (fun j hj => fr _ (m4 j hj) (b4 j hj)) p4⟩
noncomputable def KXi : Nat → Bool := memB [nat_lit 0, nat_lit 1, nat_lit 34, nat_lit 35, nat_lit 36, nat_lit 37, nat_lit 38, nat_lit 39, nat_lit 40, nat_lit 41, nat_lit 42, nat_lit 43, nat_lit 57, nat_lit 58, nat_lit 59, nat_lit 60, nat_lit 61, nat_lit 62, nat_lit 63, nat_lit 64, nat_lit 65, nat_lit 66, nat_lit 67]
noncomputable def KMi : Nat → Bool := memB [nat_lit 0, nat_lit 1, nat_lit 6, nat_lit 7, nat_lit 8, nat_lit 9, nat_lit 40, nat_lit 41, nat_lit 42, nat_lit 43, nat_lit 44]
noncomputable def chI : Nat → Bool := fun u => Bool.or (Nat.beq u (nat_lit 282677)) (memB [nat_lit 57, nat_lit 58, nat_lit 60, nat_lit 61, nat_lit 62, nat_lit 63, nat_lit 64, nat_lit 65, nat_lit 66, nat_lit 67, nat_lit 109, nat_lit 110, nat_lit 111, nat_lit 112, nat_lit 113] (Nat.div u (nat_lit 4096)))
noncomputable def cpX : List (Nat × Nat × Nat) := [(nat_lit 57, nat_lit 0, nat_lit 4096), (nat_lit 58, nat_lit 0, nat_lit 139264), (nat_lit 58, nat_lit 1, nat_lit 139265), (nat_lit 58, nat_lit 2, nat_lit 139266), (nat_lit 58, nat_lit 3, nat_lit 139267), (nat_lit 60, nat_lit 0, nat_lit 147456), (nat_lit 60, nat_lit 1, nat_lit 147457), (nat_lit 61, nat_lit 0, nat_lit 151552), (nat_lit 61, nat_lit 1, nat_lit 151553), (nat_lit 61, nat_lit 2, nat_lit 151554), (nat_lit 61, nat_lit 3, nat_lit 151555), (nat_lit 61, nat_lit 4, nat_lit 151556), (nat_lit 61, nat_lit 5, nat_lit 151557), (nat_lit 61, nat_lit 6, nat_lit 151558), (nat_lit 61, nat_lit 7, nat_lit 151559), (nat_lit 61, nat_lit 8, nat_lit 151560), (nat_lit 61, nat_lit 9, nat_lit 151561), (nat_lit 61, nat_lit 10, nat_lit 151562), (nat_lit 61, nat_lit 11, nat_lit 151563), (nat_lit 61, nat_lit 12, nat_lit 151564), (nat_lit 61, nat_lit 13, nat_lit 151565), (nat_lit 61, nat_lit 14, nat_lit 151566), (nat_lit 61, nat_lit 15, nat_lit 151567), (nat_lit 61, nat_lit 16, nat_lit 151568), (nat_lit 61, nat_lit 17, nat_lit 151569), (nat_lit 61, nat_lit 18, nat_lit 151570), (nat_lit 61, nat_lit 19, nat_lit 151571), (nat_lit 62, nat_lit 0, nat_lit 155648), (nat_lit 62, nat_lit 1, nat_lit 155649), (nat_lit 63, nat_lit 0, nat_lit 159744), (nat_lit 63, nat_lit 1, nat_lit 159745), (nat_lit 63, nat_lit 2, nat_lit 159746), (nat_lit 63, nat_lit 3, nat_lit 159747), (nat_lit 63, nat_lit 4, nat_lit 159748), (nat_lit 63, nat_lit 5, nat_lit 159749), (nat_lit 63, nat_lit 6, nat_lit 159750), (nat_lit 63, nat_lit 7, nat_lit 159751), (nat_lit 63, nat_lit 8, nat_lit 159752), (nat_lit 63, nat_lit 9, nat_lit 159753), (nat_lit 63, nat_lit 10, nat_lit 159754), (nat_lit 63, nat_lit 11, nat_lit 159755), (nat_lit 63, nat_lit 12, nat_lit 159756), (nat_lit 63, nat_lit 13, nat_lit 159757), (nat_lit 63, nat_lit 14, nat_lit 159758), (nat_lit 63, nat_lit 15, nat_lit 159759), (nat_lit 63, nat_lit 16, nat_lit 159760), (nat_lit 63, nat_lit 17, nat_lit 159761), (nat_lit 63, nat_lit 18, nat_lit 159762), (nat_lit 63, nat_lit 19, nat_lit 159763), (nat_lit 64, nat_lit 0, nat_lit 163840), (nat_lit 64, nat_lit 1, nat_lit 163841), (nat_lit 65, nat_lit 0, nat_lit 167936), (nat_lit 65, nat_lit 1, nat_lit 167937), (nat_lit 65, nat_lit 2, nat_lit 167938), (nat_lit 65, nat_lit 3, nat_lit 167939), (nat_lit 65, nat_lit 4, nat_lit 167940), (nat_lit 65, nat_lit 5, nat_lit 167941), (nat_lit 65, nat_lit 6, nat_lit 167942), (nat_lit 65, nat_lit 7, nat_lit 167943), (nat_lit 65, nat_lit 8, nat_lit 167944), (nat_lit 65, nat_lit 9, nat_lit 167945), (nat_lit 65, nat_lit 10, nat_lit 167946), (nat_lit 65, nat_lit 11, nat_lit 167947), (nat_lit 65, nat_lit 12, nat_lit 167948), (nat_lit 65, nat_lit 13, nat_lit 167949), (nat_lit 65, nat_lit 14, nat_lit 167950), (nat_lit 65, nat_lit 15, nat_lit 167951), (nat_lit 65, nat_lit 16, nat_lit 167952), (nat_lit 65, nat_lit 17, nat_lit 167953), (nat_lit 65, nat_lit 18, nat_lit 167954), (nat_lit 65, nat_lit 19, nat_lit 167955), (nat_lit 66, nat_lit 0, nat_lit 172032), (nat_lit 66, nat_lit 1, nat_lit 172033), (nat_lit 67, nat_lit 0, nat_lit 176128), (nat_lit 67, nat_lit 1, nat_lit 176129), (nat_lit 67, nat_lit 2, nat_lit 176130), (nat_lit 67, nat_lit 3, nat_lit 176131), (nat_lit 67, nat_lit 4, nat_lit 176132), (nat_lit 67, nat_lit 5, nat_lit 176133), (nat_lit 67, nat_lit 6, nat_lit 176134), (nat_lit 67, nat_lit 7, nat_lit 176135), (nat_lit 67, nat_lit 8, nat_lit 176136), (nat_lit 67, nat_lit 9, nat_lit 176137), (nat_lit 67, nat_lit 10, nat_lit 176138), (nat_lit 67, nat_lit 11, nat_lit 176139), (nat_lit 67, nat_lit 12, nat_lit 176140), (nat_lit 67, nat_lit 13, nat_lit 176141), (nat_lit 67, nat_lit 14, nat_lit 176142), (nat_lit 67, nat_lit 15, nat_lit 176143), (nat_lit 67, nat_lit 16, nat_lit 176144), (nat_lit 67, nat_lit 17, nat_lit 176145), (nat_lit 67, nat_lit 18, nat_lit 176146), (nat_lit 67, nat_lit 19, nat_lit 176147)]
noncomputable def cpM : List (Nat × Nat × Nat) := [(nat_lit 40, nat_lit 0, nat_lit 286720), (nat_lit 40, nat_lit 1, nat_lit 286721), (nat_lit 40, nat_lit 2, nat_lit 286722), (nat_lit 40, nat_lit 3, nat_lit 286723), (nat_lit 40, nat_lit 4, nat_lit 286724), (nat_lit 40, nat_lit 5, nat_lit 286725), (nat_lit 41, nat_lit 0, nat_lit 307200), (nat_lit 41, nat_lit 1, nat_lit 307201), (nat_lit 41, nat_lit 2, nat_lit 307202), (nat_lit 41, nat_lit 3, nat_lit 307203), (nat_lit 41, nat_lit 4, nat_lit 307204), (nat_lit 41, nat_lit 5, nat_lit 307205), (nat_lit 41, nat_lit 6, nat_lit 307206), (nat_lit 41, nat_lit 7, nat_lit 307207), (nat_lit 41, nat_lit 8, nat_lit 307208), (nat_lit 41, nat_lit 9, nat_lit 307209), (nat_lit 41, nat_lit 10, nat_lit 307210), (nat_lit 41, nat_lit 11, nat_lit 307211), (nat_lit 41, nat_lit 12, nat_lit 307212), (nat_lit 41, nat_lit 13, nat_lit 307213), (nat_lit 41, nat_lit 14, nat_lit 307214), (nat_lit 41, nat_lit 15, nat_lit 307215), (nat_lit 41, nat_lit 16, nat_lit 307216), (nat_lit 41, nat_lit 17, nat_lit 307217), (nat_lit 41, nat_lit 18, nat_lit 307218), (nat_lit 41, nat_lit 19, nat_lit 307219), (nat_lit 41, nat_lit 20, nat_lit 307220), (nat_lit 41, nat_lit 21, nat_lit 307221), (nat_lit 41, nat_lit 22, nat_lit 307222), (nat_lit 41, nat_lit 23, nat_lit 307223), (nat_lit 42, nat_lit 0, nat_lit 311296), (nat_lit 42, nat_lit 1, nat_lit 311297), (nat_lit 42, nat_lit 2, nat_lit 311298), (nat_lit 42, nat_lit 3, nat_lit 311299), (nat_lit 43, nat_lit 0, nat_lit 315392), (nat_lit 43, nat_lit 1, nat_lit 315393), (nat_lit 43, nat_lit 2, nat_lit 315394), (nat_lit 43, nat_lit 3, nat_lit 315395), (nat_lit 44, nat_lit 0, nat_lit 319488), (nat_lit 44, nat_lit 1, nat_lit 319489), (nat_lit 44, nat_lit 2, nat_lit 319490), (nat_lit 44, nat_lit 3, nat_lit 319491), (nat_lit 44, nat_lit 4, nat_lit 319492), (nat_lit 44, nat_lit 5, nat_lit 319493), (nat_lit 44, nat_lit 6, nat_lit 319494), (nat_lit 44, nat_lit 7, nat_lit 319495), (nat_lit 44, nat_lit 8, nat_lit 319496), (nat_lit 44, nat_lit 9, nat_lit 319497), (nat_lit 44, nat_lit 10, nat_lit 319498), (nat_lit 44, nat_lit 11, nat_lit 319499), (nat_lit 44, nat_lit 12, nat_lit 319500), (nat_lit 44, nat_lit 13, nat_lit 319501), (nat_lit 44, nat_lit 14, nat_lit 319502), (nat_lit 44, nat_lit 15, nat_lit 319503), (nat_lit 44, nat_lit 16, nat_lit 319504), (nat_lit 44, nat_lit 17, nat_lit 319505), (nat_lit 44, nat_lit 18, nat_lit 319506), (nat_lit 44, nat_lit 19, nat_lit 319507), (nat_lit 44, nat_lit 20, nat_lit 319508), (nat_lit 44, nat_lit 21, nat_lit 319509), (nat_lit 44, nat_lit 22, nat_lit 319510), (nat_lit 44, nat_lit 23, nat_lit 319511), (nat_lit 44, nat_lit 24, nat_lit 319512), (nat_lit 44, nat_lit 25, nat_lit 319513), (nat_lit 44, nat_lit 26, nat_lit 319514), (nat_lit 44, nat_lit 27, nat_lit 319515), (nat_lit 44, nat_lit 28, nat_lit 319516), (nat_lit 44, nat_lit 29, nat_lit 319517), (nat_lit 44, nat_lit 30, nat_lit 319518), (nat_lit 44, nat_lit 31, nat_lit 319519), (nat_lit 44, nat_lit 32, nat_lit 319520), (nat_lit 44, nat_lit 33, nat_lit 319521), (nat_lit 44, nat_lit 34, nat_lit 319522), (nat_lit 44, nat_lit 35, nat_lit 319523), (nat_lit 44, nat_lit 36, nat_lit 319524), (nat_lit 44, nat_lit 37, nat_lit 319525), (nat_lit 44, nat_lit 38, nat_lit 319526), (nat_lit 44, nat_lit 39, nat_lit 319527), (nat_lit 44, nat_lit 40, nat_lit 319528), (nat_lit 44, nat_lit 41, nat_lit 319529), (nat_lit 44, nat_lit 42, nat_lit 319530), (nat_lit 44, nat_lit 43, nat_lit 319531), (nat_lit 44, nat_lit 44, nat_lit 319532), (nat_lit 44, nat_lit 45, nat_lit 319533), (nat_lit 44, nat_lit 46, nat_lit 319534), (nat_lit 44, nat_lit 47, nat_lit 319535), (nat_lit 44, nat_lit 48, nat_lit 319536), (nat_lit 44, nat_lit 49, nat_lit 319537), (nat_lit 44, nat_lit 50, nat_lit 319538), (nat_lit 44, nat_lit 51, nat_lit 319539), (nat_lit 44, nat_lit 52, nat_lit 319540), (nat_lit 44, nat_lit 53, nat_lit 319541), (nat_lit 44, nat_lit 54, nat_lit 319542), (nat_lit 44, nat_lit 55, nat_lit 319543), (nat_lit 44, nat_lit 56, nat_lit 319544), (nat_lit 44, nat_lit 57, nat_lit 319545), (nat_lit 44, nat_lit 58, nat_lit 319546), (nat_lit 44, nat_lit 59, nat_lit 319547), (nat_lit 44, nat_lit 60, nat_lit 319548), (nat_lit 44, nat_lit 61, nat_lit 319549), (nat_lit 44, nat_lit 62, nat_lit 319550), (nat_lit 44, nat_lit 63, nat_lit 319551), (nat_lit 44, nat_lit 64, nat_lit 319552), (nat_lit 44, nat_lit 65, nat_lit 319553), (nat_lit 44, nat_lit 66, nat_lit 319554), (nat_lit 44, nat_lit 67, nat_lit 319555), (nat_lit 44, nat_lit 68, nat_lit 319556), (nat_lit 44, nat_lit 69, nat_lit 319557), (nat_lit 44, nat_lit 70, nat_lit 319558), (nat_lit 44, nat_lit 71, nat_lit 319559), (nat_lit 44, nat_lit 72, nat_lit 319560), (nat_lit 44, nat_lit 73, nat_lit 319561), (nat_lit 44, nat_lit 74, nat_lit 319562), (nat_lit 44, nat_lit 75, nat_lit 319563), (nat_lit 44, nat_lit 76, nat_lit 319564), (nat_lit 44, nat_lit 77, nat_lit 319565), (nat_lit 44, nat_lit 78, nat_lit 319566), (nat_lit 44, nat_lit 79, nat_lit 319567)]
noncomputable def ckI (x0 m0 x m : sM) : Bool := Bool.and (frJ chI x0 m0 x m) (Bool.and (eqC0 m (nat_lit 0) (nat_lit 53) (nat_lit 1)) (Bool.and (lAll (fun t => eqE0 x t.1 t.2.1 (.var t.2.2)) cpX) (lAll (fun t => eqE0 m t.1 t.2.1 (.var t.2.2)) cpM)))
theorem crJ_i : crJ KXi KMi chI = true := by decide +kernel
theorem chI_ok : allL 11 (fun id => lAll (fun u => Bool.not (chI u)) (cPl id)) = true := by decide +kernel
theorem cpX_1 : (57, 0, xP 1 0) ∈ cpX := by decide +kernel
theorem cpX_2 : ∀ q, q < 4 → (58, q, xP 34 q) ∈ cpX := by decide +kernel
theorem cpX_3 : ∀ s, s < 4 → (60 + 2 * s, 0, xP (36 + 2 * s) 0) ∈ cpX := by decide +kernel
theorem cpX_4 : ∀ s, s < 4 → (60 + 2 * s, 1, xP (36 + 2 * s) 1) ∈ cpX := by decide +kernel
theorem cpX_5 : ∀ s, s < 4 → ∀ j, j < 20 → (61 + 2 * s, j, xP (37 + 2 * s) j) ∈ cpX := by decide +kernel
theorem cpX_in : (57, 0, xP 1 0) ∈ cpX ∧ (∀ q, q < 4 → (58, q, xP 34 q) ∈ cpX) ∧ ∀ s, s < 4 → (60 + 2 * s, 0, xP (36 + 2 * s) 0) ∈ cpX ∧ (60 + 2 * s, 1, xP (36 + 2 * s) 1) ∈ cpX ∧ ∀ j, j < 20 → (61 + 2 * s, j, xP (37 + 2 * s) j) ∈ cpX := ⟨cpX_1, cpX_2, fun s hs => ⟨cpX_3 s hs, cpX_4 s hs, cpX_5 s hs⟩⟩
theorem cpM_1 : ∀ i, i < 6 → (40, i, mP 1 i) ∈ cpM := by decide +kernel
theorem cpM_2 : ∀ j, j < 24 → (41, j, mP 6 j) ∈ cpM := by decide +kernel
theorem cpM_3 : ∀ s, s < 4 → (42, s, mP 7 s) ∈ cpM := by decide +kernel
theorem cpM_4 : ∀ s, s < 4 → (43, s, mP 8 s) ∈ cpM := by decide +kernel
theorem cpM_5 : ∀ j, j < 80 → (44, j, mP 9 j) ∈ cpM := by decide +kernel
theorem cpM_in : (∀ i, i < 6 → (40, i, mP 1 i) ∈ cpM) ∧ (∀ j, j < 24 → (41, j, mP 6 j) ∈ cpM) ∧ (∀ s, s < 4 → (42, s, mP 7 s) ∈ cpM ∧ (43, s, mP 8 s) ∈ cpM) ∧ ∀ j, j < 80 → (44, j, mP 9 j) ∈ cpM := ⟨cpM_1, cpM_2, fun s hs => ⟨cpM_3 s hs, cpM_4 s hs⟩, cpM_5⟩
theorem lens_tab : ∀ c, c < 18 → ∀ i, i < 6 → eqO (tM c 1).2.2[i]? (some (.inl (.natCast ((lensOf c).getD i 0)))) = true := by decide +kernel
theorem q_image : jRun (nat_lit 100000) (nat_lit 200) tXv tXv tMv tMv (nat_lit 122) (nat_lit 225) KXi KMi [] [(nat_lit 0, nat_lit 1, .var (nat_lit 4097))] [] [] (fun x0 m0 pa x m => ckI x0 m0 x m) = true := by decide +kernel
theorem op_image {l : Launch} {D : va_G} {cy : Nat → ClassId} {alX alM : Nat → Nat} : OpI l D cy alX alM 122 225 0 := by
  intro r as hI hlen
  obtain rfl : as = [] := List.length_eq_zero_iff.mp hlen
  refine OpOk_uA [] ?_
  replace hI := Inv_uA (as := []) hI
  generalize uA r [] = r at hI  ⊢
  obtain ⟨c, hc, hcc, hcm⟩ := id hI
  obtain ⟨⟨hcd, hn1, -⟩, hn2, -⟩ := CC_nd hc hcc
  refine jOk l tXv_ok tXv_ok tMv_ok tMv_ok (cC_X r) (cC_M r) sPa_nil (fun _ _ _ => rfl) (fun _ _ _ => rfl) oX_nil (oM_cons (by rw [sI_v]; exact hn2.trans hn1.symm) oM_nil) rfl rfl q_image ?_
  intro x0 m0 pa x m hx0 hm0 hck hp hfx hfm _ _
  unfold ckI at hck
  simp only [Bool.and_eq_true] at hck
  obtain ⟨k1, k2, k3, k4⟩ := hck
  refine Inv_touch (T := fun id => Nat.beq id 11) crJ_i (fun id hid g => ?_) hx0 hm0 hfx hfm k1 hI (fun c hc h1 h2 id hid g => ?_)
  · exact allL_ok chI_ok id (by
      rcases Nat.lt_or_ge id 11 with h | h
      · exact h
      · have : id = 11 := by omega
        subst this
        cases g)
  · have e : id = 11 := Nat.eq_of_beq_eq_true g
    subst e
    obtain ⟨⟨hcd, hn1, -⟩, hn2, -⟩ := CC_nd hc h1
    have vx : ∀ i j u, (i, j, u) ∈ cpX → i < 68 → j < 4096 → (eJ r x m).1 (xP i j) = r.1 u := fun i j u h hi hj => by rw [eqE0_x hi hj (lAll_ok k3 _ h), sI_v]
    have vm : ∀ i j u, (i, j, u) ∈ cpM → j < 4096 → (eJ r x m).1 (mP i j) = r.1 u := fun i j u h hj => by rw [eqE0_m hj (lAll_ok k4 _ h), sI_v]
    obtain ⟨x1, x2, x3⟩ := cpX_in
    obtain ⟨y1, y2, y3, y4⟩ := cpM_in
    refine Or.inr ⟨c, hc, (vx _ _ _ x1 (by omega) (by omega)).trans hcd, eqC0_m (show 53 < 4096 by omega) k2, fun i hi => (vm _ _ _ (y1 i hi) (by omega)).trans ((h1.2 1 (by omega) i _).1 (eqO_ok (lens_tab c hc i hi))), fun q hq => ?_, fun s hs => ?_⟩
    · have hR := h2 q (by omega)
      rw [Comp_R hq] at hR
      refine cR_copy (vx _ _ _ (x2 q hq) (by omega) (by omega)) (fun i hi => ?_) hR
      have := vm _ _ _ (y2 (6 * q + 1 + i) (by omega)) (by omega)
      have e1 : mP 41 (6 * q + 1 + i) = mP 41 (6 * q + 1) + i := by unfold mP; omega
      have e2 : mP 6 (6 * q + 1 + i) = mP 6 (6 * q + 1) + i := by unfold mP; omega
      rw [e1, e2] at this
      exact this
    · have hS := h2 (4 + s) (by omega)
      rw [Comp_S hs] at hS
      obtain ⟨p1, p2, p3⟩ := x3 s hs
      refine cS_copy (vx _ _ _ p1 (by omega) (by omega)) (vx _ _ _ p2 (by omega) (by omega)) (vm _ _ _ (y3 s hs).1 (by omega)) (vm _ _ _ (y3 s hs).2 (by omega)) (fun j hj => ?_) (fun j hj => ?_) hS
      · have := vx _ _ _ (p3 j hj) (by omega) (by omega)
        have e1 : xP (61 + 2 * s) j = xP (61 + 2 * s) 0 + j := by unfold xP; omega
        have e2 : xP (37 + 2 * s) j = xP (37 + 2 * s) 0 + j := by unfold xP; omega
        rw [e1, e2] at this
        exact this
      · have := vm _ _ _ (y4 (20 * s + j) (by omega)) (by omega)
        have e1 : mP 44 (20 * s + j) = mP 44 (20 * s) + j := by unfold mP; omega
        have e2 : mP 9 (20 * s + j) = mP 9 (20 * s) + j := by unfold mP; omega
        rw [e1, e2] at this
        exact this
