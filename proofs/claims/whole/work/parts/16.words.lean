/-! 16: words of the fields, of arraycopy -/
theorem cpw_abs : sTw 398 (Cond.code Lib.MathLoose.abs_long.x Lib.MathLoose.abs_long.code 2 (some .long)) = true := by decide +kernel
theorem sCpw_ok : sCpw := ⟨by decide +kernel, by decide +kernel, by decide +kernel, by decide +kernel, by decide +kernel, sTw_ok cpw_abs⟩
theorem fw_0 : ∀ w ∈ u_ws RX0 TX0 2, w ∈ sTb := by decide +kernel
theorem fw_1 : ∀ w ∈ u_ws RX1 TX1 3, w ∈ sTb := by decide +kernel
theorem fw_4 : ∀ w ∈ u_ws RX4 TX4 12, w ∈ sTb := by decide +kernel
theorem fw_5 : ∀ w ∈ u_ws RX5 TX5 4, w ∈ sTb := by decide +kernel
theorem fw_6 : ∀ w ∈ u_ws RX6 TX6 9, w ∈ sTb := by decide +kernel
theorem fw_7 : ∀ w ∈ u_ws RX7 TX7 3, w ∈ sTb := by decide +kernel
theorem fw_8 : ∀ w ∈ u_ws RX8 TX8 3, w ∈ sTb := by decide +kernel
theorem fw_10 : ∀ w ∈ u_ws RX10 TX10 3, w ∈ sTb := by decide +kernel
theorem fw_11 : ∀ w ∈ u_ws RX11 TX11 4, w ∈ sTb := by decide +kernel
theorem fw_12 : ∀ w ∈ u_ws RX12 TX12 11, w ∈ sTb := by decide +kernel
theorem fw_13 : ∀ w ∈ u_ws RX13 TX13 59, w ∈ sTb := by decide +kernel
theorem sFld_ok : sFld := by
  intro ci C T N h
  match ci, h with
  | 0, h => cases h; exact ⟨fw_0, tyX0, tyX0_ok, nmX0⟩
  | 1, h => cases h; exact ⟨fw_1, tyX1, tyX1_ok, nmX1⟩
  | 2, h => cases h; exact ⟨fw_4, tyX4, tyX4_ok, nmX4⟩
  | 3, h => cases h; exact ⟨fw_5, tyX5, tyX5_ok, nmX5⟩
  | 4, h => cases h; exact ⟨fw_6, tyX6, tyX6_ok, nmX6⟩
  | 5, h => cases h; exact ⟨fw_7, tyX7, tyX7_ok, nmX7⟩
  | 6, h => cases h; exact ⟨fw_8, tyX8, tyX8_ok, nmX8⟩
  | 7, h => cases h; exact ⟨fw_8, tyX8, tyX8_ok, nmX8⟩
  | 8, h => cases h; exact ⟨fw_10, tyX10, tyX10_ok, nmX10⟩
  | 9, h => cases h; exact ⟨fw_11, tyX11, tyX11_ok, nmX11⟩
  | 10, h => cases h; exact ⟨fw_12, tyX12, tyX12_ok, nmX12⟩
  | 11, h => cases h; exact ⟨fw_13, tyX13, tyX13_ok, nmX13⟩
  | k + 12, h => simp [vwCl] at h
