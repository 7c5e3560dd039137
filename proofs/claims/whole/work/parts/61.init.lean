/-! 61: the state behind both constructors -/
theorem fit_all {b : Nat} {r : sE} {al : Nat → Nat} {cy : Nat → ClassId} {hid : Nat → va_E} {rest : va_W} {n : Nat} {t2 : Nat → sC} {mem : sM} (h : fitM b n t2 (fun _ => true) mem = true) : sW r al cy hid rest mem = tW (eOf b r mem) al cy rest n t2 := by
  obtain ⟨hl, h1⟩ := fitM_ok h
  refine sW_ext hl (fun i c hc => ?_)
  rcases h1 i c hc with ⟨-, h2⟩ | ⟨h2, -⟩
  · exact (fitC_ok hc h2).symm
  · cases h2
theorem fit_X0 : fitM 0 68 (tX 4) (fun _ => true) tX0 = true := by decide +kernel
theorem fit_M0 : fitM 69 45 (tM 4) (fun _ => true) tM0 = true := by decide +kernel
theorem init_R : allL 4 (fun q => Bool.and (eqC0 tX0 34 q 344865) (allL 5 (fun i => eqC0 tM0 6 (6 * q + 1 + i) (i + 1)))) = true := by decide +kernel
theorem init_S : allL 4 (fun s => Bool.and (eqC0 tX0 (36 + 2 * s) 0 0) (eqC0 tM0 7 s 0)) = true := by decide +kernel
theorem init_0 : Bool.and (Bool.and (Bool.and (eqC0 tX0 44 0 0) (eqC0 tM0 0 17 0)) (Bool.and (eqC0 tX0 0 7 0) (eqC0 tM0 0 41 0))) (Bool.and (Bool.and (eqC0 tX0 50 0 0) (eqC0 tM0 0 49 0)) (Bool.and (eqC0 tX0 57 0 0) (eqC0 tM0 0 53 0))) = true := by decide +kernel
theorem init_L : allL 5 (fun i => eqC0 tM0 19 (1 + i) 0) = true ∧ allL 4 (fun d => eqC0 tM0 38 (6 * d) 0) = true := ⟨by decide +kernel, by decide +kernel⟩
theorem init_w (r : sE) {al : Nat → Nat} {cy : Nat → ClassId} {hid : Nat → va_E} {rest : va_W} : sW r al cy hid rest tX0 = tW (eJ r tX0 tM0) al cy rest 68 tXv := by
  rw [fit_all fit_X0, cC_w (fun i hi => (tX_ok (c := 4) (by omega) i hi).2) (cC_fit (t := tXv) fit_X0 (fun _ _ q => by cases q) (cC_X r) (fun i hi => (tXv_can i hi)))]
  unfold tW
  congr 1
  apply List.map_congr_left
  intro i hi
  rw [List.mem_range] at hi
  rw [canC_ok (tXv_can i hi).2 (fun j hj => ?_)]
  unfold eJ
  have h1 : (4096 * (0 + i) + j) / 4096 < 69 := by omega
  simp only [if_pos h1]
  exact ⟨trivial, trivial⟩
theorem init_wM (r : sE) {al : Nat → Nat} {cy : Nat → ClassId} {hid : Nat → va_E} {rest : va_W} : sW r al cy hid rest tM0 = tW (eJ r tX0 tM0) al cy rest 45 tMv := by
  rw [fit_all fit_M0, cC_w (fun i hi => (tM_ok (c := 4) (by omega) i hi).2) (cC_fit (t := tMv) fit_M0 (fun _ _ q => by cases q) (cC_M r) (fun i hi => (tMv_can i hi)))]
  unfold tW
  congr 1
  apply List.map_congr_left
  intro i hi
  rw [List.mem_range] at hi
  rw [canC_ok (tMv_can i hi).2 (fun j hj => ?_)]
  unfold eJ
  have h1 : ¬ (4096 * (69 + i) + j) / 4096 < 69 := by omega
  simp only [if_neg h1]
  exact ⟨trivial, trivial⟩
theorem init_Inv (r : sE) : Inv (eJ r tX0 tM0) := by
  have h0 := init_0
  simp only [Bool.and_eq_true] at h0
  obtain ⟨⟨⟨a1, a2⟩, a3, a4⟩, ⟨a5, a6⟩, a7, a8⟩ := h0
  refine ⟨4, by omega, ⟨cC_eJx (tX_ok (by omega)) (cC_fit (t := tXv) fit_X0 (fun _ _ q => by cases q) (cC_X r) tXv_can), cC_eJm (cC_fit (t := tMv) fit_M0 (fun _ _ q => by cases q) (cC_M r) tMv_can)⟩, fun id hid => ?_⟩
  by_cases h4 : id < 4
  · rw [Comp_R h4]
    have h := allL_ok init_R id h4
    rw [Bool.and_eq_true] at h
    refine ⟨[1, 2, 3, 4, 5], isP_in (by decide) (by decide) (by decide +kernel), ?_, fun i hi => ?_⟩
    · exact eqC0_x (by omega) (by omega) h.1
    · have := eqC0_m (r := r) (x := tX0) (show 6 * id + 1 + i < 4096 by omega) (allL_ok h.2 i hi)
      rw [show mP 6 (6 * id + 1) + i = mP 6 (6 * id + 1 + i) by unfold mP; omega, this]
      rcases (show i = 0 ∨ i = 1 ∨ i = 2 ∨ i = 3 ∨ i = 4 by omega) with rfl | rfl | rfl | rfl | rfl <;> rfl
  by_cases h8 : id < 8
  · obtain ⟨s, rfl⟩ : ∃ s, id = 4 + s := ⟨id - 4, by omega⟩
    rw [Comp_S (by omega)]
    have h := allL_ok init_S s (by omega)
    rw [Bool.and_eq_true] at h
    have b1 := eqC0_x (r := r) (m := tM0) (show 36 + 2 * s < 68 by omega) (by omega) h.1
    have b2 := eqC0_m (r := r) (x := tX0) (show s < 4096 by omega) h.2
    exact ⟨b2.trans b1.symm, Or.inl b1⟩
  rcases (show id = 8 ∨ id = 9 ∨ id = 10 ∨ id = 11 by omega) with rfl | rfl | rfl | rfl
  · exact ⟨0, by omega, eqC0_x (by omega) (by omega) a1, eqC0_m (by omega) a2, fun i hi => by omega⟩
  · exact ⟨0, by omega, eqC0_x (by omega) (by omega) a3, eqC0_m (by omega) a4, fun i hi => by omega⟩
  · refine ⟨0, by omega, eqC0_x (by omega) (by omega) a5, eqC0_m (by omega) a6, fun i hi => by omega, fun i hi => ⟨0, by omega, ?_⟩, fun d hd => ⟨0, by omega, ?_⟩⟩
    · have := eqC0_m (r := r) (x := tX0) (show 1 + i < 4096 by omega) (allL_ok init_L.1 i hi)
      rw [show mP 19 1 + i = mP 19 (1 + i) by unfold mP; omega]
      exact this
    · exact eqC0_m (r := r) (x := tX0) (show 6 * d < 4096 by omega) (allL_ok init_L.2 d hd)
  · exact Or.inl ⟨eqC0_x (by omega) (by omega) a7, eqC0_m (by omega) a8⟩
