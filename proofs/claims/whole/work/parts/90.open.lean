def z_Inv (μ : z_Mem) : Prop := True
theorem z_Inv0 : z_Inv z_mu0 := trivial
theorem op_all_ok : op_all z_Inv z_Inv := sorry
