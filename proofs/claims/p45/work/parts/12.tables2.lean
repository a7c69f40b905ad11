/-! System.arraycopy -/
theorem w_45 : lw_tbl[45]? = some (.initialized "java/lang/System" : Cond) := by decide +kernel
theorem w_498 : lw_tbl[498]? = some (.methodLink "GraphNames$Graph" (55) (⟨"java/lang/System", "arraycopy", "(Ljava/lang/Object;ILjava/lang/Object;II)V"⟩ : MethodName) : Cond) := by decide +kernel
theorem w_499 : lw_tbl[499]? = some (.static (⟨"java/lang/System", "arraycopy", "(Ljava/lang/Object;ILjava/lang/Object;II)V"⟩ : MethodName) : Cond) := by decide +kernel
theorem w_500 : lw_tbl[500]? = some (.native (⟨"java/lang/System", "arraycopy", "(Ljava/lang/Object;ILjava/lang/Object;II)V"⟩ : MethodName) : Cond) := by decide +kernel
theorem w_533 : lw_tbl[533]? = some (.methodLink "GraphNames$Cells" (60) (⟨"java/lang/System", "arraycopy", "(Ljava/lang/Object;ILjava/lang/Object;II)V"⟩ : MethodName) : Cond) := by decide +kernel
theorem w_564 : lw_tbl[564]? = some (.methodLink "GraphNames$Leaf" (64) (⟨"java/lang/System", "arraycopy", "(Ljava/lang/Object;ILjava/lang/Object;II)V"⟩ : MethodName) : Cond) := by decide +kernel
theorem w_678 : lw_tbl[678]? = some (.methodLink "GraphNames$Pairing" (73) (⟨"java/lang/System", "arraycopy", "(Ljava/lang/Object;ILjava/lang/Object;II)V"⟩ : MethodName) : Cond) := by decide +kernel
theorem w_1059 : lw_tbl[1059]? = some (.methodLink "java/util/Arrays" (150) (⟨"java/lang/System", "arraycopy", "(Ljava/lang/Object;ILjava/lang/Object;II)V"⟩ : MethodName) : Cond) := by decide +kernel
theorem w_1112 : lw_tbl[1112]? = some (.methodLink "java/lang/String" (212) (⟨"java/lang/System", "arraycopy", "(Ljava/lang/Object;ILjava/lang/Object;II)V"⟩ : MethodName) : Cond) := by decide +kernel
theorem lk_X0_60 : z_LC "GraphNames$Cells" 60 := ⟨(lw_good_at w_533 rfl), (lw_good_at w_500 rfl), (lw_good_at w_499 rfl), (lw_good_at w_45 rfl)⟩
theorem lk_X1_55 : z_LC "GraphNames$Graph" 55 := ⟨(lw_good_at w_498 rfl), (lw_good_at w_500 rfl), (lw_good_at w_499 rfl), (lw_good_at w_45 rfl)⟩
theorem lk_X2_64 : z_LC "GraphNames$Leaf" 64 := ⟨(lw_good_at w_564 rfl), (lw_good_at w_500 rfl), (lw_good_at w_499 rfl), (lw_good_at w_45 rfl)⟩
theorem lk_X3_73 : z_LC "GraphNames$Pairing" 73 := ⟨(lw_good_at w_678 rfl), (lw_good_at w_500 rfl), (lw_good_at w_499 rfl), (lw_good_at w_45 rfl)⟩
theorem lk_J0_212 : z_LC "java/lang/String" 212 := ⟨(lw_good_at w_1112 rfl), (lw_good_at w_500 rfl), (lw_good_at w_499 rfl), (lw_good_at w_45 rfl)⟩
theorem lk_J7_150 : z_LC "java/util/Arrays" 150 := ⟨(lw_good_at w_1059 rfl), (lw_good_at w_500 rfl), (lw_good_at w_499 rfl), (lw_good_at w_45 rfl)⟩
