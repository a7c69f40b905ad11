/-! a private method called on an object of a lower class; switches; what the library's counting of bits and zeros gives -/
section ZR3
variable {g : zG} {gr : Bool} {d : Nat} {M M2 : zM} {C S pc : Nat} {ls st st0 : List Value} {h : zH} {Q : Option Value → zH → Prop}
theorem z_selP {C C2 : String} {c : ClassId} {y x2 y2 : MethodName} {s : State} {args : Array Value} (hc : s.vm.findClass C = some c) (hy : y.cls ≠ "java/lang/invoke/MethodHandle" ∧ y.cls ≠ "java/lang/invoke/VarHandle") (hpriv : (Cond.privateMethod y).before args s = true) (hinst : (Cond.instanceMethod y).before args s = true) (hsel2 : (Cond.selects C2 x2 y2).before args s = true) (hcls : y2.cls = y.cls) : (Cond.selects C y y).before args s = true := by
  obtain ⟨c2, r2, m2, -, -, hn2, -, k2, hk2, hni⟩ := Cond.selects_spec hsel2
  obtain ⟨mk, methM, hnamed, hmethM, -, -⟩ := Cond.instanceMethod_spec hinst
  have hfound : s.methodFound? y.cls y.name y.desc = some mk := State.methodFound?_of_named hnamed hy
  have hcm : mk.cls = m2.cls := by
    have h1 := findClass_of_methodNamed hn2
    rw [hcls] at h1
    exact Option.some.inj ((findClass_of_methodNamed hnamed).symm.trans h1)
  have hsel : selectMethod {} s.vm c mk = .method mk := selectMethod_private hmethM (Cond.privateMethod_at hpriv mk methM hnamed hmethM)
  simp only [Cond.before, Cond.holds, Cond.value, hc, hfound, hnamed, hsel, hcm, hk2]
  simp; exact hni
def z_LP (own : String) (ix : Nat) (M2 : zM) : Prop := Cond.methodLink own ix M2.1 ∈ lw_good ∧ Cond.sameMethod M2.1.cls M2.1.cls M2.1.name M2.1.desc ∈ lw_good ∧ Cond.privateMethod M2.1 ∈ lw_nest ∧ Cond.instanceMethod M2.1 ∈ lw_good ∧ ∃ C2 x2 y2, Cond.selects C2 x2 y2 ∈ lw_good ∧ y2.cls = M2.1.cls
theorem r_callP {ix a ci n C1 S1 : Nat} (As : List Value) (st : List Value) {T : u_T} {N : Nat} (n9 : Nat) (hd : decode M.2.1 pc = .ok (.invokevirtual ix, 3)) {Cn : String} (lk : z_LP M.1.cls ix M2) (md : z_MD M2 n9) (hcl : vwCl[ci]? = some (Cn, T, N)) (hci : ci < 12) (ha : z_isA h a ci n) (hn : As.length = n9) (hst : st0 = As.reverse ++ .ref a :: st) (hcat : (st.map fun v => v.category).sum ≤ 8) {C2 S2 : Nat} (hC : C = C1 + C2) (hS : S = S1 + S2)
    (ok : Ok g gr d M2 C1 S1 (.ref a :: As) h (fun r h2 => WP g gr (d + 1) M C2 S2 (pc + 3) ls (r.toList ++ st) h2 Q)) : WP g gr (d + 1) M C S pc ls st0 h Q := by
  intro p e R s m args below meth c mc ms QQ fx ret hmc hms H locs cells slots real rel lo lv hc hs
  subst hst
  have hts := fx.1.2.2.2.2
  obtain ⟨k1, k2, k3, k4, C2', x2, y2, k5, k6⟩ := lk
  have hro := z_room (M2 := M2) (C1 := C1) (S1 := S1) fx.2.2.1 fx.2.2.2.1 md.2.2.2.2.2
  obtain ⟨hS1, hfc, -⟩ := fx.2.1.2.1.1 ci _ hcl
  have hG := z_WG md
  have hcw : Cond.code M2.1 M2.2.1 M2.2.2.1 M2.2.2.2 ∈ z_W M2 := List.mem_cons_self
  have cu : va_CU R s args M.1.cls Cn M2.1.cls ix M2.1 M2.1 M2.2.1 M2.2.2.1 M2.2.2.2 (z_W M2) (z_rm d C1 S1) C1 S1 n9 := by
    refine ⟨⟨rfl, rfl, hro.1, hro.2, pay_in hts hG, hcw⟩, hts _ (hG _ hcw).1, hts _ md.2.1, ⟨md.2.2.1, md.2.2.2.1⟩, fun sig h => ?_, hts _ k1, hts _ k2, va_Decl.of (hts _ k4) (hts _ (hG _ hcw).1), z_selP hfc ⟨md.2.2.1, md.2.2.2.1⟩ (va_Nw.use rfl (fx.2.1.2.2.2.1 _ k3)) (hts _ k4) (hts _ k5) k6, hts _ k4⟩
    have h2 := md.2.2.2.2.1
    rw [h] at h2
    exact (Option.some.inj h2).symm
  refine z_run (va_runU (C := Cn) (b := z_rho g a) (As := As.map (z_tr g)) (rest := st.map (z_tr g)) fx.1 ok cu ⟨z_blind, z_recv rel fx.2.1 ha hci hcl, fun U hU hW => ⟨rfl, fx.2.1.moved hW, by rw [hU]; exact rel⟩⟩ rfl (by rw [List.length_map]; exact hn) lv.1 ?_ (by rw [z_catsum]; exact (Nat.zero_add _).symm ▸ hcat) hd ⟨by omega, by omega⟩) lo (fun r h2 H1 locs1 hq rel1 lo1 => ?_)
  · show (As.reverse ++ .ref a :: st).map (z_tr g) = _
    rw [List.map_append, List.map_reverse, List.map_cons]; rfl
  · have := hq p e R s m args below meth c mc ms QQ fx ret hmc hms H1 locs1 (cells + C1) (slots + S1) real rel1 lo1 lv (by omega) (by omega)
    rw [List.map_append] at this
    exact this
theorem z_ne {x y : Int32} (h : ¬ x = y) : x.toInt ≠ y.toInt := fun e => h (Int32.toInt_inj.mp e)
theorem z_out0_1 {x : Int32} (h : ¬ x = 0 ∧ ¬ x = 1) : x.toInt < 0 ∨ 1 < x.toInt := by
  have h0 : x.toInt ≠ 0 := z_ne h.1
  have h1 : x.toInt ≠ 1 := z_ne h.2
  omega
theorem z_out0_2 {x : Int32} (h : ¬ x = 0 ∧ ¬ x = 1 ∧ ¬ x = 2) : x.toInt < 0 ∨ 2 < x.toInt := by
  have h0 : x.toInt ≠ 0 := z_ne h.1
  have h1 : x.toInt ≠ 1 := z_ne h.2.1
  have h2 : x.toInt ≠ 2 := z_ne h.2.2
  omega
theorem z_out0_3 {x : Int32} (h : ¬ x = 0 ∧ ¬ x = 1 ∧ ¬ x = 2 ∧ ¬ x = 3) : x.toInt < 0 ∨ 3 < x.toInt := by
  have h0 : x.toInt ≠ 0 := z_ne h.1
  have h1 : x.toInt ≠ 1 := z_ne h.2.1
  have h2 : x.toInt ≠ 2 := z_ne h.2.2.1
  have h3 : x.toInt ≠ 3 := z_ne h.2.2.2
  omega
theorem z_out0_4 {x : Int32} (h : ¬ x = 0 ∧ ¬ x = 1 ∧ ¬ x = 2 ∧ ¬ x = 3 ∧ ¬ x = 4) : x.toInt < 0 ∨ 4 < x.toInt := by
  have h0 : x.toInt ≠ 0 := z_ne h.1
  have h1 : x.toInt ≠ 1 := z_ne h.2.1
  have h2 : x.toInt ≠ 2 := z_ne h.2.2.1
  have h3 : x.toInt ≠ 3 := z_ne h.2.2.2.1
  have h4 : x.toInt ≠ 4 := z_ne h.2.2.2.2
  omega
def fUshr (x y : Int32) : Int32 := (x.toUInt32 >>> (y.toUInt32 &&& Int32.toUInt32 31)).toInt32
theorem z_cmax : Cond.code Lib.Math.max.name Lib.Math.max.code 2 (some .int) ∈ lw_good := lw_good_at (i := 462) (by decide +kernel) rfl
theorem z_cmin : Cond.code Lib.Math.min.name Lib.Math.min.code 2 (some .int) ∈ lw_good := lw_good_at (i := 571) (by decide +kernel) rfl
theorem z_smax : Cond.static Lib.Math.max.name ∈ lw_good := lw_good_at (i := 461) (by decide +kernel) rfl
theorem z_smin : Cond.static Lib.Math.min.name ∈ lw_good := lw_good_at (i := 570) (by decide +kernel) rfl
theorem z_imath : Cond.initialized "java/lang/Math" ∈ lw_good := lw_good_at (i := 44) (by decide +kernel) rfl
theorem lm_X1_33 : Cond.methodLink "GraphNames$Graph" 33 Lib.Math.max.name ∈ lw_good := lw_good_at (i := 460) (by decide +kernel) rfl
theorem lm_X2_51 : Cond.methodLink "GraphNames$Leaf" 51 Lib.Math.min.name ∈ lw_good := lw_good_at (i := 569) (by decide +kernel) rfl
theorem lm_X7_25 : Cond.methodLink "GraphNames$Tree" 25 Lib.Math.max.name ∈ lw_good := lw_good_at (i := 586) (by decide +kernel) rfl
theorem lm_X4_33 : Cond.methodLink "GraphNames$Past" 33 Lib.Math.min.name ∈ lw_good := lw_good_at (i := 751) (by decide +kernel) rfl
theorem lm_J8_194 : Cond.methodLink "jdk/internal/util/ArraysSupport" 194 Lib.Math.max.name ∈ lw_good := lw_good_at (i := 1043) (by decide +kernel) rfl
theorem lm_J7_304 : Cond.methodLink "java/util/Arrays" 304 Lib.Math.min.name ∈ lw_good := lw_good_at (i := 1058) (by decide +kernel) rfl
theorem lm_L_130 : Cond.methodLink "GraphNamesLaw" 130 Lib.Math.max.name ∈ lw_good := lw_good_at (i := 1270) (by decide +kernel) rfl
def fMax (x y : Int32) : Int32 := if x < y then y else x
def fMin (x y : Int32) : Int32 := if y < x then y else x
theorem r_max {ix : Nat} {x y : Int32} (hd : decode M.2.1 pc = .ok (.invokestatic ix, 3)) (lk : Cond.methodLink M.1.cls ix Lib.Math.max.name ∈ lw_good) (hd1 : 1 ≤ d) (hcat : (st.map fun v => v.category).sum ≤ 8) (k : WP g gr d M C S (pc + 3) ls (.int (fMax x y) :: st) h Q) : WP g gr d M C S pc ls (.int y :: .int x :: st) h Q := by
  intro p e R s m args below meth c mc ms QQ fx ret hmc hms H locs cells slots real rel lo lv hc hs
  have hts := fx.1.2.2.2.2
  have := fx.2.2.1
  have := fx.2.2.2.1
  refine va_mmax fx.1.1 fx.1.2.1 (fx.1.2.2.1.trans lv.1.symm) fx.1.2.2.2.1 (hts _ lk) (hts _ z_smax) (hts _ z_imath) (hts _ z_cmax) (by omega) ?_ (by omega) (by omega) hd (k p e R s m args below meth c mc ms QQ fx ret hmc hms H locs cells slots real rel lo lv hc hs)
  rw [z_catsum]; omega
theorem r_min {ix : Nat} {x y : Int32} (hd : decode M.2.1 pc = .ok (.invokestatic ix, 3)) (lk : Cond.methodLink M.1.cls ix Lib.Math.min.name ∈ lw_good) (hd1 : 1 ≤ d) (hcat : (st.map fun v => v.category).sum ≤ 8) (k : WP g gr d M C S (pc + 3) ls (.int (fMin x y) :: st) h Q) : WP g gr d M C S pc ls (.int y :: .int x :: st) h Q := by
  intro p e R s m args below meth c mc ms QQ fx ret hmc hms H locs cells slots real rel lo lv hc hs
  have hts := fx.1.2.2.2.2
  have := fx.2.2.1
  have := fx.2.2.2.1
  refine va_mmin fx.1.1 fx.1.2.1 (fx.1.2.2.1.trans lv.1.symm) fx.1.2.2.2.1 (hts _ lk) (hts _ z_smin) (hts _ z_imath) (hts _ z_cmin) (by omega) ?_ (by omega) (by omega) hd (k p e R s m args below meth c mc ms QQ fx ret hmc hms H locs cells slots real rel lo lv hc hs)
  rw [z_catsum]; omega
theorem zA {m : zm} {a t n : Nat} (h : sA a t n) : z_isA (mk m) a t n := h
theorem z_lit {i : Int32} {n : Nat} (h : (!(decide (i < 0)) && decide (i.toNatClampNeg < n)) = true) : vp_in i n := by
  simp only [Bool.and_eq_true, Bool.not_eq_true', decide_eq_false_iff_not, decide_eq_true_eq] at h
  unfold vp_in
  rintro (h1 | h1)
  · exact h.1 h1
  · omega
theorem lp_X8_74 : z_LP "GraphNames$Walk" 74 mX8_come := ⟨lw_good_at (i := 538) (by decide +kernel) rfl, lw_good_at (i := 1272) (by decide +kernel) rfl, lw_nest_at (i := 539) (by decide +kernel) rfl, lw_good_at (i := 540) (by decide +kernel) rfl, _, _, _, lw_good_at (i := 487) (w := .selects "GraphNames$Tree" ⟨"GraphNames$Tree", "look", "(LGraphNames$Graph;)V"⟩ ⟨"GraphNames$Walk", "look", "(LGraphNames$Graph;)V"⟩) (by decide +kernel) rfl, rfl⟩
theorem lp_J5_204 : z_LP "java/lang/AbstractStringBuilder" 204 mJ5_appendNull_278bc := ⟨lw_good_at (i := 1028) (by decide +kernel) rfl, lw_good_at (i := 1274) (by decide +kernel) rfl, lw_nest_at (i := 1029) (by decide +kernel) rfl, lw_good_at (i := 1030) (by decide +kernel) rfl, _, _, _, lw_good_at (i := 1063) (w := .selects "java/lang/StringBuilder" ⟨"java/lang/AbstractStringBuilder", "isLatin1", "()Z"⟩ ⟨"java/lang/AbstractStringBuilder", "isLatin1", "()Z"⟩) (by decide +kernel) rfl, rfl⟩
theorem lp_J5_100 : z_LP "java/lang/AbstractStringBuilder" 100 mJ5_ensureCapacityInternal_d00df := ⟨lw_good_at (i := 1032) (by decide +kernel) rfl, lw_good_at (i := 1275) (by decide +kernel) rfl, lw_nest_at (i := 1033) (by decide +kernel) rfl, lw_good_at (i := 1034) (by decide +kernel) rfl, _, _, _, lw_good_at (i := 1063) (w := .selects "java/lang/StringBuilder" ⟨"java/lang/AbstractStringBuilder", "isLatin1", "()Z"⟩ ⟨"java/lang/AbstractStringBuilder", "isLatin1", "()Z"⟩) (by decide +kernel) rfl, rfl⟩
theorem lp_J5_104 : z_LP "java/lang/AbstractStringBuilder" 104 mJ5_newCapacity_0f7a4 := ⟨lw_good_at (i := 1036) (by decide +kernel) rfl, lw_good_at (i := 1276) (by decide +kernel) rfl, lw_nest_at (i := 1037) (by decide +kernel) rfl, lw_good_at (i := 1038) (by decide +kernel) rfl, _, _, _, lw_good_at (i := 1063) (w := .selects "java/lang/StringBuilder" ⟨"java/lang/AbstractStringBuilder", "isLatin1", "()Z"⟩ ⟨"java/lang/AbstractStringBuilder", "isLatin1", "()Z"⟩) (by decide +kernel) rfl, rfl⟩
theorem lp_J5_208 : z_LP "java/lang/AbstractStringBuilder" 208 mJ5_putStringAt_47b60 := ⟨lw_good_at (i := 1081) (by decide +kernel) rfl, lw_good_at (i := 1277) (by decide +kernel) rfl, lw_nest_at (i := 1082) (by decide +kernel) rfl, lw_good_at (i := 1083) (by decide +kernel) rfl, _, _, _, lw_good_at (i := 1063) (w := .selects "java/lang/StringBuilder" ⟨"java/lang/AbstractStringBuilder", "isLatin1", "()Z"⟩ ⟨"java/lang/AbstractStringBuilder", "isLatin1", "()Z"⟩) (by decide +kernel) rfl, rfl⟩
theorem lp_J5_397 : z_LP "java/lang/AbstractStringBuilder" 397 mJ5_inflateIfNeededFor_a7421 := ⟨lw_good_at (i := 1085) (by decide +kernel) rfl, lw_good_at (i := 1278) (by decide +kernel) rfl, lw_nest_at (i := 1086) (by decide +kernel) rfl, lw_good_at (i := 1087) (by decide +kernel) rfl, _, _, _, lw_good_at (i := 1063) (w := .selects "java/lang/StringBuilder" ⟨"java/lang/AbstractStringBuilder", "isLatin1", "()Z"⟩ ⟨"java/lang/AbstractStringBuilder", "isLatin1", "()Z"⟩) (by decide +kernel) rfl, rfl⟩
theorem lp_J5_195 : z_LP "java/lang/AbstractStringBuilder" 195 mJ5_inflate_da8c8 := ⟨lw_good_at (i := 1089) (by decide +kernel) rfl, lw_good_at (i := 1279) (by decide +kernel) rfl, lw_nest_at (i := 1090) (by decide +kernel) rfl, lw_good_at (i := 1091) (by decide +kernel) rfl, _, _, _, lw_good_at (i := 1063) (w := .selects "java/lang/StringBuilder" ⟨"java/lang/AbstractStringBuilder", "isLatin1", "()Z"⟩ ⟨"java/lang/AbstractStringBuilder", "isLatin1", "()Z"⟩) (by decide +kernel) rfl, rfl⟩
end ZR3
