theorem g_inX0 : ∀ w ∈ u_ws RX0 TX0 5, zwd w = true := by decide +kernel
theorem g_inX1 : ∀ w ∈ u_ws RX1 TX1 2, zwd w = true := by decide +kernel
theorem g_inX3 : ∀ w ∈ u_ws RX3 TX3 11, zwd w = true := by decide +kernel
theorem g_inX5 : ∀ w ∈ u_ws RX5 TX5 1, zwd w = true := by decide +kernel
theorem g_inX6 : ∀ w ∈ u_ws RX6 TX6 5, zwd w = true := by decide +kernel
theorem g_inX7 : ∀ w ∈ u_ws RX7 TX7 14, zwd w = true := by decide +kernel
theorem g_inX8 : ∀ w ∈ u_ws RX8 TX8 28, zwd w = true := by decide +kernel
theorem gcl_ok (ci : Nat) (r : vw_C) (h : gCl[ci]? = some r) : (∀ w ∈ u_ws r.1 r.2.1 r.2.2, w ∈ gTB) ∧ (∀ k, k < r.2.2 → parseFieldDescriptor (r.2.1 k).2.2.1 = some (gTy ci k)) ∧ ∀ a, a < r.2.2 → ∀ b, b < r.2.2 → a ≠ b → (r.2.1 a).2.1 ≠ (r.2.1 b).2.1 := by
  match ci, h with
  | 0, h => cases h; exact ⟨fun w hw => zwd_in (g_inX0 w hw), tyX0_ok, nmX0⟩
  | 1, h => cases h; exact ⟨fun w hw => zwd_in (g_inX1 w hw), tyX1_ok, nmX1⟩
  | 2, h => cases h; exact ⟨fun w hw => zwd_in (g_inX3 w hw), tyX3_ok, nmX3⟩
  | 3, h => cases h; exact ⟨fun w hw => zwd_in (g_inX5 w hw), tyX5_ok, nmX5⟩
  | 4, h => cases h; exact ⟨fun w hw => zwd_in (g_inX6 w hw), tyX6_ok, nmX6⟩
  | 5, h => cases h; exact ⟨fun w hw => zwd_in (g_inX7 w hw), tyX7_ok, nmX7⟩
  | 6, h => cases h; exact ⟨fun w hw => zwd_in (g_inX8 w hw), tyX8_ok, nmX8⟩
  | k + 7, h => simp [gCl] at h
theorem g_inst (k : Nat) (h : k < gCl.length) : ∃ n, Cond.instantiable (gCl[k]).1 n ∈ lw_tbl := by
  have h : k < 7 := h
  match k, h with
  | 0, _ => exact ⟨5, (by decide +kernel : Cond.instantiable RX0 5 ∈ lw_tbl)⟩
  | 1, _ => exact ⟨2, (by decide +kernel : Cond.instantiable RX1 2 ∈ lw_tbl)⟩
  | 2, _ => exact ⟨11, (by decide +kernel : Cond.instantiable RX3 11 ∈ lw_tbl)⟩
  | 3, _ => exact ⟨1, (by decide +kernel : Cond.instantiable RX5 1 ∈ lw_tbl)⟩
  | 4, _ => exact ⟨5, (by decide +kernel : Cond.instantiable RX6 5 ∈ lw_tbl)⟩
  | 5, _ => exact ⟨14, (by decide +kernel : Cond.instantiable RX7 14 ∈ lw_tbl)⟩
  | 6, _ => exact ⟨28, (by decide +kernel : Cond.instantiable RX8 28 ∈ lw_tbl)⟩
  | k + 7, h => exact absurd h (by omega)
