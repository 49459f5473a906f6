def zx_I : St → Prop := fun _ => True
theorem inv_all : lx_all 100000 zx_I := sorry
theorem inv_0 : zx_I zx_S0 := trivial
