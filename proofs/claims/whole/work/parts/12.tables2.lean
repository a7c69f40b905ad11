/-! System.arraycopy -/
theorem w_128 : lw_tbl[128]? = some (.initialized "java/lang/System" : Cond) := by decide +kernel
theorem w_657 : lw_tbl[657]? = some (.methodLink "GraphNames$Graph" (55) (⟨"java/lang/System", "arraycopy", "(Ljava/lang/Object;ILjava/lang/Object;II)V"⟩ : MethodName) : Cond) := by decide +kernel
theorem w_658 : lw_tbl[658]? = some (.static (⟨"java/lang/System", "arraycopy", "(Ljava/lang/Object;ILjava/lang/Object;II)V"⟩ : MethodName) : Cond) := by decide +kernel
theorem w_659 : lw_tbl[659]? = some (.native (⟨"java/lang/System", "arraycopy", "(Ljava/lang/Object;ILjava/lang/Object;II)V"⟩ : MethodName) : Cond) := by decide +kernel
theorem w_738 : lw_tbl[738]? = some (.methodLink "GraphNames$Cells" (60) (⟨"java/lang/System", "arraycopy", "(Ljava/lang/Object;ILjava/lang/Object;II)V"⟩ : MethodName) : Cond) := by decide +kernel
theorem w_816 : lw_tbl[816]? = some (.methodLink "GraphNames$Leaf" (64) (⟨"java/lang/System", "arraycopy", "(Ljava/lang/Object;ILjava/lang/Object;II)V"⟩ : MethodName) : Cond) := by decide +kernel
theorem w_926 : lw_tbl[926]? = some (.methodLink "GraphNames$Pairing" (73) (⟨"java/lang/System", "arraycopy", "(Ljava/lang/Object;ILjava/lang/Object;II)V"⟩ : MethodName) : Cond) := by decide +kernel
theorem lk_X0_60 : z_LC "GraphNames$Cells" 60 := ⟨(lw_good_at w_738 rfl), (lw_good_at w_659 rfl), (lw_good_at w_658 rfl), (lw_good_at w_128 rfl)⟩
theorem lk_X1_55 : z_LC "GraphNames$Graph" 55 := ⟨(lw_good_at w_657 rfl), (lw_good_at w_659 rfl), (lw_good_at w_658 rfl), (lw_good_at w_128 rfl)⟩
theorem lk_X2_64 : z_LC "GraphNames$Leaf" 64 := ⟨(lw_good_at w_816 rfl), (lw_good_at w_659 rfl), (lw_good_at w_658 rfl), (lw_good_at w_128 rfl)⟩
theorem lk_X3_73 : z_LC "GraphNames$Pairing" 73 := ⟨(lw_good_at w_926 rfl), (lw_good_at w_659 rfl), (lw_good_at w_658 rfl), (lw_good_at w_128 rfl)⟩
