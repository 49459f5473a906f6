/-! every call keeps the invariant -/
theorem inv_fu {fu : Nat} (hf : 2000000 ≤ fu) : lx_all fu zx_I := by
  have h : 20000 ≤ fu := by omega
  exact ⟨lx_feed h, lx_end, lx_learn hf, lx_log, lx_share, lx_start h, lx_place h, lx_rank h, lx_pack h, lx_unpack h, lx_fault, lx_written, lx_take h, lx_ideal h, lx_code h, lx_gone, lx_symbol h, lx_left h, lx_look⟩
theorem inv_all : lx_all 2000000 zx_I := inv_fu (Nat.le_refl _)
