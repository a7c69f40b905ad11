/-! StringBuilder: made; its text -/
section ZSb3
variable {g : zG} {gr : Bool} {d : Nat} {M M2 : zM} {C S pc : Nat} {ls st st0 : List Value} {h : zH} {Q : Option Value → zH → Prop}
theorem nw_J4_18 : z_NW "java/lang/StringBuilder" 18 10 4 := ⟨"java/lang/String", TJ0, rfl, inGJ0, tyJ0_ok, lw_good_at (i := 1171) (by decide +kernel) rfl, lw_good_at (i := 1172) (by decide +kernel) rfl, lw_good_at (i := 48) (by decide +kernel) rfl, by decide, by decide⟩
theorem nw_L_32 : z_NW "GraphNamesLaw" 32 11 4 := ⟨"java/lang/StringBuilder", TJ4, rfl, inGJ4, tyJ4_ok, lw_good_at (i := 994) (by decide +kernel) rfl, lw_good_at (i := 995) (by decide +kernel) rfl, lw_good_at (i := 47) (by decide +kernel) rfl, by decide, by decide⟩
theorem sB_new {x n : Nat} {h2 : zH} (hx : z_isA h x 11 4) (hx2 : 811 ≤ x) (h3 : z_I h x 3 = 0) (hn : n ≤ 600) (hz : 811 ≤ z_z h) (ez : z_z h2 = z_z h + 1) (eT : ∀ a, z_T h2 a = if a = z_z h then (29, n) else z_T h a) (eR : ∀ a k, z_R h2 a k = if a = x ∧ k = 0 then some (z_z h) else if a = z_z h then none else z_R h a k) (eL : ∀ a k, z_L h2 a k = if a = z_z h then 0 else z_L h a k) (eI : ∀ a k, z_I h2 a k = if a = x ∧ k = 1 then 0 else if a = z_z h then 0 else z_I h a k) : sBx h2 x (z_z h) [] n ∧ hkp h h2 x x (z_z h) 1 := by
  have hxl := hx.2.1
  refine ⟨⟨fun c hc => absurd hc List.not_mem_nil, ⟨Nat.zero_le _, hn⟩, ⟨hx2, hz, by omega⟩, ⟨hx.1, by rw [ez]; omega, by rw [eT, if_neg (by omega)]; exact hx.2.2⟩, by rw [eR, if_pos ⟨rfl, rfl⟩], by rw [eI, if_pos ⟨rfl, rfl⟩], ?_, ⟨by omega, by rw [ez]; omega, by rw [eT, if_pos rfl]⟩, fun j hj => ⟨0, by decide, ?_⟩, fun j hj => absurd hj (Nat.not_lt_zero _)⟩, ⟨by omega, by omega, Or.inr (Nat.le_refl _), fun a ha => ⟨by rw [eT, if_neg (by omega)], fun h1 _ k => ⟨by rw [eR, if_neg (fun w => h1 w.1), if_neg (by omega)], by rw [eL, if_neg (by omega)], by rw [eI, if_neg (fun w => h1 w.1), if_neg (by omega)]⟩⟩⟩⟩
  · rw [eI, if_neg (by omega), if_neg (by omega), h3]; rfl
  · rw [eI, if_neg (by omega), if_pos rfl]; rfl

theorem u_asbInit {e x n : Nat} (he : 1 ≤ e) (hx : z_isA h x 11 4) (hx2 : 811 ≤ x) (h3 : z_I h x 3 = 0) (hn : n ≤ 600) (hz : 811 ≤ z_z h) (hz2 : z_z h + 1 < z_top) (H : ∀ h2 y2, sBx h2 x y2 [] n → hkp h h2 x x y2 1 → Q none h2) : Ok g true e mJ5_init_d00df (0 + 1) (0 + n) [.ref x, .int (nI n)] h Q := by
  obtain ⟨d, rfl⟩ := dn he
  refine Ok_of (ls := [.ref x, .int (nI n)]) (by decide) rfl (Nat.le_of_ble_eq_true rfl) rfl ?_
  refine r_aload_n 0 dJ5_init_d00df_0 rfl rfl ?_
  refine r_objInit dJ5_init_d00df_1 lo_J5_3 (by omega) (Nat.le_of_ble_eq_true rfl) ?_
  refine r_getsC dJ5_init_d00df_4 (lw_good_at (i := 1065) (by decide +kernel) rfl) ?_
  refine r_if_eq 25 dJ5_init_d00df_7 rfl (fun q => absurd q (by decide)) (fun _ => ?_)
  refine r_aload_n 0 dJ5_init_d00df_10 rfl rfl ?_
  refine r_iload_n 1 dJ5_init_d00df_11 rfl rfl ?_
  refine r_newarrG (t := 29) (N := n) dJ5_init_d00df_12 rfl (Or.inr rfl) ac_byte (nI_pos (by omega)) (nI_clamp (by omega)) (by omega) hz hz2 ?_
  refine r_putR dJ5_init_d00df_14 fp_J5_15_J4 (fun z => nomatch z) (isA_new hx) ?_
  refine r_aload_n 0 dJ5_init_d00df_17 rfl rfl ?_
  refine r_iconst (0) dJ5_init_d00df_18 rfl ?_
  refine r_putB dJ5_init_d00df_19 fp_J5_22_J4 (fun z => nomatch z) rfl rfl (isA_new hx) ?_
  refine r_goto 38 dJ5_init_d00df_22 rfl ?_
  obtain ⟨f1, f2⟩ := sB_new (h2 := z_uI (z_uR (hnew h 29 n) x 0 (some (z_z h))) x 1 0) hx hx2 h3 hn hz rfl (fun _ => rfl) (fun _ _ => rfl) (fun _ _ => rfl) (fun _ _ => rfl)
  exact r_vret dJ5_init_d00df_38 rfl (H _ _ f1 f2)

theorem u_sbInit {e x : Nat} (he : 2 ≤ e) (hx : z_isA h x 11 4) (hx2 : 811 ≤ x) (h3 : z_I h x 3 = 0) (hz : 811 ≤ z_z h) (hz2 : z_z h + 1 < z_top) (H : ∀ h2 y2, sBx h2 x y2 [] 16 → hkp h h2 x x y2 1 → Q none h2) : Ok g true e mJ4_init_da8c8 1 600 [.ref x] h Q := by
  obtain ⟨d, rfl⟩ := dn he
  refine Ok_of (ls := [.ref x]) (by decide) rfl (Nat.le_of_ble_eq_true rfl) rfl ?_
  refine r_aload_n 0 dJ4_init_da8c8_0 rfl rfl ?_
  refine r_bipush (16) dJ4_init_da8c8_1 rfl ?_
  refine r_callI (C1 := 0 + 1) (S1 := 0 + 16) (C2 := 0) (S2 := 584) [.int (nI 16)] [] 1 dJ4_init_da8c8_3 lk_J4_1 md_J5_init_d00df rfl rfl (Nat.le_of_ble_eq_true rfl) rfl rfl (u_asbInit (by omega) hx hx2 h3 (by decide) hz hz2 (fun h2 y2 f1 f2 => ?_))
  exact r_vret dJ4_init_da8c8_6 rfl (H _ _ f1 f2)

theorem u_asbInitS {e x i : Nat} (he : 7 ≤ e) (hi : i < 11) (hx : z_isA h x 11 4) (hx2 : 811 ≤ x) (h3 : z_I h x 3 = 0) (hz : 811 ≤ z_z h) (hz2 : z_z h + 2 < z_top) (H : ∀ h2 y2 n2, sBx h2 x y2 (tC i) n2 → hkp h h2 x x y2 2 → Q none h2) : Ok g true e mJ5_init_a7421 (1 + 1) (600 + ((tC i).length + 16)) [.ref x, .ref (z_top + i)] h Q := by
  obtain ⟨d, rfl⟩ := dn he
  have ht8 := (tC_ok i hi).2.1
  have hzt : z_top = 1000000 := rfl
  refine Ok_of (ls := [.ref x, .ref (z_top + i), .retAddr 0, .retAddr 0, .retAddr 0]) (by decide) rfl (Nat.le_of_ble_eq_true rfl) rfl ?_
  refine r_aload_n 0 dJ5_init_a7421_0 rfl rfl ?_
  refine r_objInit dJ5_init_a7421_1 lo_J5_3 (by omega) (Nat.le_of_ble_eq_true rfl) ?_
  refine r_aload_n 1 dJ5_init_a7421_4 rfl rfl ?_
  refine r_callSt (C1 := 0) (S1 := 0) (C2 := 2) (S2 := 600 + ((tC i).length + 16)) (tS_con hi) [] [] 0 dJ5_init_a7421_5 lk_J5_32 md_J0_length_8abf5 rfl rfl rfl (Nat.le_of_ble_eq_true rfl) (by omega) (by omega) (u_length (by omega) (tS_con hi) ?_)
  refine r_istore_n 2 dJ5_init_a7421_8 rfl (Nat.le_of_ble_eq_true rfl) rfl ?_
  refine r_iload_n 2 dJ5_init_a7421_9 rfl rfl ?_
  refine r_ldc dJ5_init_a7421_10 kc_J5_38 ?_
  refine r_icmp_ge 22 dJ5_init_a7421_12 rfl (fun q => absurd q (nI_ge (a := (tC i).length) (b := 2147483631) (by omega) (by decide))) (fun _ => ?_)
  refine r_iload_n 2 dJ5_init_a7421_15 rfl rfl ?_
  refine r_bipush (16) dJ5_init_a7421_16 rfl ?_
  refine r_iadd dJ5_init_a7421_18 ?_
  rw [show nI (tC i).length + 16 = nI ((tC i).length + 16) from nI_add _ 16]
  refine r_goto 24 dJ5_init_a7421_19 rfl ?_
  refine r_istore_n 3 dJ5_init_a7421_24 rfl (Nat.le_of_ble_eq_true rfl) rfl ?_
  refine r_aload_n 1 dJ5_init_a7421_25 rfl rfl ?_
  refine r_callSt (C1 := 0) (S1 := 0) (C2 := 2) (S2 := 600 + ((tC i).length + 16)) (tS_con hi) [] [] 0 dJ5_init_a7421_26 lk_J5_40 md_J0_coder_7d493 rfl rfl rfl (Nat.le_of_ble_eq_true rfl) (by omega) (by omega) (u_coder (tS_con hi) ?_)
  refine r_istore dJ5_init_a7421_29 (Nat.le_of_ble_eq_true rfl) rfl ?_
  refine r_aload_n 0 dJ5_init_a7421_31 rfl rfl ?_
  refine r_iload dJ5_init_a7421_32 rfl ?_
  refine r_putB dJ5_init_a7421_34 fp_J5_22_J4 (fun z => nomatch z) rfl rfl hx ?_
  refine r_aload_n 0 dJ5_init_a7421_37 rfl rfl ?_
  refine r_iload dJ5_init_a7421_38 rfl ?_
  refine r_if_ne 49 dJ5_init_a7421_40 rfl (fun q => absurd rfl q) (fun _ => ?_)
  refine r_iload_n 3 dJ5_init_a7421_43 rfl rfl ?_
  refine r_newarrG (C := 1) (S := 600) (t := 29) (N := (tC i).length + 16) dJ5_init_a7421_44 rfl (Or.inr rfl) ac_byte (nI_pos (by omega)) (nI_clamp (by omega)) (by omega) hz (by show z_z h + 1 < z_top; omega) ?_
  refine r_goto 53 dJ5_init_a7421_46 rfl ?_
  refine r_putR dJ5_init_a7421_53 fp_J5_15_J4 (fun z => nomatch z) (isA_new (h := z_uI h x 1 0) hx) ?_
  obtain ⟨f1, f2⟩ := sB_new (h2 := z_uR (hnew (z_uI h x 1 0) 29 ((tC i).length + 16)) x 0 (some (z_z h))) hx hx2 h3 (by omega) hz rfl (fun _ => rfl) (fun _ _ => rfl) (fun _ _ => rfl) (fun a k => by
    show (if a = z_z h then 0 else if a = x ∧ k = 1 then 0 else z_I h a k) = _
    by_cases w : a = z_z h
    · rw [if_pos w]; split
      · rfl
      · rfl
    · rw [if_neg w, if_neg w])
  refine r_aload_n 0 dJ5_init_a7421_56 rfl rfl ?_
  refine r_aload_n 1 dJ5_init_a7421_57 rfl rfl ?_
  refine r_callU (C1 := 1) (S1 := 600) (C2 := 0) (S2 := 0) [.ref (z_top + i)] [] 1 dJ5_init_a7421_58 lk_J5_43_J4 md_J4_append_cf1ce (ci := 11) rfl (by decide) f1.2.2.2.1 rfl rfl (Nat.le_of_ble_eq_true rfl) rfl rfl (u_appB (by omega) f1 (tS_con hi) (by omega) (by rw [List.length_nil]; omega) (by show 811 ≤ z_z h + 1; omega) (by show z_z h + 1 + 1 < z_top; omega) (fun h3 y3 n3 f3 f4 => ?_))
  refine r_pop dJ5_init_a7421_61 rfl ?_
  exact r_vret dJ5_init_a7421_62 rfl (H _ _ _ f3 (hkp_trans f2 f4))

theorem u_sbInitS {e x i : Nat} (he : 8 ≤ e) (hi : i < 11) (hx : z_isA h x 11 4) (hx2 : 811 ≤ x) (h3 : z_I h x 3 = 0) (hz : 811 ≤ z_z h) (hz2 : z_z h + 2 < z_top) (H : ∀ h2 y2 n2, sBx h2 x y2 (tC i) n2 → hkp h h2 x x y2 2 → Q none h2) : Ok g true e mJ4_init_a7421 2 700 [.ref x, .ref (z_top + i)] h Q := by
  obtain ⟨d, rfl⟩ := dn he
  have ht8 := (tC_ok i hi).2.1
  refine Ok_of (ls := [.ref x, .ref (z_top + i)]) (by decide) rfl (Nat.le_of_ble_eq_true rfl) rfl ?_
  refine r_aload_n 0 dJ4_init_a7421_0 rfl rfl ?_
  refine r_aload_n 1 dJ4_init_a7421_1 rfl rfl ?_
  refine r_callI (C1 := 1 + 1) (S1 := 600 + ((tC i).length + 16)) (C2 := 0) (S2 := 100 - ((tC i).length + 16)) [.ref (z_top + i)] [] 1 dJ4_init_a7421_2 lk_J4_7 md_J5_init_a7421 rfl rfl (Nat.le_of_ble_eq_true rfl) rfl (by omega) (u_asbInitS (by omega) hi hx hx2 h3 hz hz2 (fun h2 y2 n2 f1 f2 => ?_))
  exact r_vret dJ4_init_a7421_5 rfl (H _ _ _ f1 f2)

theorem u_ckLen {e n : Nat} (hn : n < 2 ^ 31) (H : Q none h) : Ok g gr e mJ7_checkLength_df160 0 0 [.int 0, .int (nI n)] h Q := by
  refine Ok_of (ls := [.int 0, .int (nI n)]) (by decide) rfl (Nat.le_of_ble_eq_true rfl) rfl ?_
  refine r_iload_n 1 dJ7_checkLength_df160_0 rfl rfl ?_
  refine r_iload_n 0 dJ7_checkLength_df160_1 rfl rfl ?_
  refine r_icmp_ge 37 dJ7_checkLength_df160_2 rfl (fun _ => ?_) (fun q => absurd (nI_pos' hn) q)
  exact r_vret dJ7_checkLength_df160_37 rfl H

theorem u_rangeB {e b n q : Nat} (he : 1 ≤ e) (hb : z_isA h b 29 n) (hq : q ≤ n) (hn : n ≤ 10000) (hf : ∀ j, j < n → fits .byte (.int (z_I h b j)) = true) (hz : 811 ≤ z_z h) (hz2 : z_z h + 1 < z_top) (H : ∀ f, (∀ j, j < q → f j = z_I h b j) → Q (some (.ref (z_z h))) (hcp (hnew h 29 q) (z_z h) 0 q f)) : Ok g true e mJ7_copyOfRangeByte_39247 (0 + 1) (0 + q) [.ref b, .int 0, .int (nI q)] h Q := by
  obtain ⟨d, rfl⟩ := dn he
  refine Ok_of (ls := [.ref b, .int 0, .int (nI q), .retAddr 0, .retAddr 0]) (by decide) rfl (Nat.le_of_ble_eq_true rfl) rfl ?_
  refine r_iload_n 1 dJ7_copyOfRangeByte_39247_0 rfl rfl ?_
  refine r_iload_n 2 dJ7_copyOfRangeByte_39247_1 rfl rfl ?_
  refine r_callS (C1 := 0) (S1 := 0) (C2 := 0 + 1) (S2 := 0 + q) [.int 0, .int (nI q)] [] 2 dJ7_copyOfRangeByte_39247_2 lk_J7_343 md_J7_checkLength_df160 rfl rfl (Nat.le_of_ble_eq_true rfl) (by omega) (by omega) (u_ckLen (by omega) ?_)
  refine r_iload_n 2 dJ7_copyOfRangeByte_39247_5 rfl rfl ?_
  refine r_iload_n 1 dJ7_copyOfRangeByte_39247_6 rfl rfl ?_
  refine r_isub dJ7_copyOfRangeByte_39247_7 ?_
  rw [show nI q - 0 = nI q from pk_sub (a := q) (b := 0) (Nat.zero_le _)]
  refine r_istore_n 3 dJ7_copyOfRangeByte_39247_8 rfl (Nat.le_of_ble_eq_true rfl) rfl ?_
  refine r_iload_n 3 dJ7_copyOfRangeByte_39247_9 rfl rfl ?_
  refine r_newarrG (t := 29) (N := q) dJ7_copyOfRangeByte_39247_10 rfl (Or.inr rfl) ac_byte (nI_pos (by omega)) (nI_clamp (by omega)) (by omega) hz hz2 ?_
  refine r_astore dJ7_copyOfRangeByte_39247_12 (Nat.le_of_ble_eq_true rfl) rfl ?_
  refine r_aload_n 0 dJ7_copyOfRangeByte_39247_14 rfl rfl ?_
  refine r_iload_n 1 dJ7_copyOfRangeByte_39247_15 rfl rfl ?_
  refine r_aload dJ7_copyOfRangeByte_39247_16 rfl ?_
  refine r_iconst (0) dJ7_copyOfRangeByte_39247_18 rfl ?_
  refine r_aload_n 0 dJ7_copyOfRangeByte_39247_19 rfl rfl ?_
  refine r_alenG dJ7_copyOfRangeByte_39247_20 (isA_new hb) (by omega) ?_
  refine r_iload_n 1 dJ7_copyOfRangeByte_39247_21 rfl rfl ?_
  refine r_isub dJ7_copyOfRangeByte_39247_22 ?_
  rw [show nI n - 0 = nI n from pk_sub (a := n) (b := 0) (Nat.zero_le _)]
  refine r_iload_n 3 dJ7_copyOfRangeByte_39247_23 rfl rfl ?_
  refine r_min dJ7_copyOfRangeByte_39247_24 lm_J7_304 (by omega) (Nat.le_of_ble_eq_true rfl) ?_
  rw [fMin_nI (by omega) (by omega), Nat.min_eq_right (by omega)]
  refine r_copyB (sp := 0) (dp := 0) (N := n) (n1 := q) (f := z_I h b) dJ7_copyOfRangeByte_39247_27 lk_J7_150 (by have := zBS_row (g := g) (gr := true) (isA_new (t2 := 29) (n2 := q) hb); rwa [hnew_Ib hb.2.1] at this) (hnew_isA hz) (by omega) (by omega) (by omega) (by omega) hf (by omega) (Nat.le_of_ble_eq_true rfl) ?_
  simp only [Nat.zero_add]
  refine r_aload dJ7_copyOfRangeByte_39247_30 rfl ?_
  exact r_aretA dJ7_copyOfRangeByte_39247_32 rfl (H _ (fun j hj => rfl))

theorem u_range {e b n q : Nat} (he : 2 ≤ e) (hb : z_isA h b 29 n) (hq : q ≤ n) (hn : n ≤ 10000) (hf : ∀ j, j < n → fits .byte (.int (z_I h b j)) = true) (hz : 811 ≤ z_z h) (hz2 : z_z h + 1 < z_top) (H : ∀ f, (∀ j, j < q → f j = z_I h b j) → Q (some (.ref (z_z h))) (hcp (hnew h 29 q) (z_z h) 0 q f)) : Ok g true e mJ7_copyOfRange_39247 (0 + 1) (0 + q) [.ref b, .int 0, .int (nI q)] h Q := by
  obtain ⟨d, rfl⟩ := dn he
  refine Ok_of (ls := [.ref b, .int 0, .int (nI q)]) (by decide) rfl (Nat.le_of_ble_eq_true rfl) rfl ?_
  refine r_iload_n 1 dJ7_copyOfRange_39247_0 rfl rfl ?_
  refine r_if_ne 10 dJ7_copyOfRange_39247_1 rfl (fun z => absurd rfl z) (fun _ => ?_)
  refine r_iload_n 2 dJ7_copyOfRange_39247_4 rfl rfl ?_
  refine r_aload_n 0 dJ7_copyOfRange_39247_5 rfl rfl ?_
  refine r_alenG dJ7_copyOfRange_39247_6 hb (by omega) ?_
  refine r_icmp_eq 17 dJ7_copyOfRange_39247_7 rfl (fun z => ?_) (fun _ => ?_)
  · have e1 : q = n := (nI_eq (by omega) (by omega)).mp z
    subst e1
    refine r_aload_n 0 dJ7_copyOfRange_39247_17 rfl rfl ?_
    refine r_cloneB dJ7_copyOfRange_39247_18 lc_J7_310 hb hn hf hz hz2 (by omega) (Nat.le_of_ble_eq_true rfl) ?_
    refine r_castB dJ7_copyOfRange_39247_21 (lw_good_at (i := 1057) (by decide +kernel) rfl) (hnew_isA hz) ?_
    exact r_aretA dJ7_copyOfRange_39247_24 rfl (H _ (fun j hj => rfl))
  · refine r_aload_n 0 dJ7_copyOfRange_39247_10 rfl rfl ?_
    refine r_iload_n 1 dJ7_copyOfRange_39247_11 rfl rfl ?_
    refine r_iload_n 2 dJ7_copyOfRange_39247_12 rfl rfl ?_
    refine r_callS (C1 := 0 + 1) (S1 := 0 + q) (C2 := 0) (S2 := 0) [.ref b, .int 0, .int (nI q)] [] 3 dJ7_copyOfRange_39247_13 lk_J7_339 md_J7_copyOfRangeByte_39247 rfl rfl (Nat.le_of_ble_eq_true rfl) rfl rfl (u_rangeB (by omega) hb hq hn hf hz hz2 (fun f hff => ?_))
    exact r_aretA dJ7_copyOfRange_39247_16 rfl (H f hff)

/-- nothing that was there is written -/
def hkeep (h h' : zH) (c : Nat) : Prop := z_z h ≤ z_z h' ∧ z_z h' ≤ z_z h + c ∧ ∀ a, a < z_z h → z_T h' a = z_T h a ∧ ∀ k, z_R h' a k = z_R h a k ∧ z_L h' a k = z_L h a k ∧ z_I h' a k = z_I h a k
theorem sBx_new {x y n t m : Nat} {l : List Nat} (s : sBx h x y l n) : sBx (hnew h t m) x y l n := by
  obtain ⟨s1, s2, s3, s4, s5, s6, s7, s8, s9, s10⟩ := s
  have hx := s4.2.1
  have hy := s8.2.1
  refine ⟨s1, s2, s3, isA_new s4, ?_, ?_, ?_, isA_new s8, ?_, ?_⟩
  · rw [hnew_R, if_neg (by omega)]; exact s5
  · rw [hnew_Ib hx]; exact s6
  · rw [hnew_Ib hx]; exact s7
  · rw [hnew_Ib hy]; exact s9
  · rw [hnew_Ib hy]; exact s10
theorem tS_made {s : Nat} {l : List Nat} {h : zH} (hl : ∀ c ∈ l, c < 128) (hl2 : l.length < 65536) (hs : z_isA h s 10 4) (e1 : z_I h s 1 = 0) (hz : 811 ≤ z_z h) {f : Nat → Int32} (hf : ∀ j, j < l.length → f j = nI (l.getD j 0)) : tS (z_uR (hcp (hnew h 29 l.length) (z_z h) 0 l.length f) s 0 (some (z_z h))) s (z_z h) l := by
  have hx := hs.2.1
  refine ⟨hl, hl2, Or.inr ⟨isA_new hs, ?_, ?_, hnew_isA hz, fun j hj => ?_⟩⟩
  · rw [uR_R, if_pos ⟨rfl, rfl⟩]
  · show z_I (hcp (hnew h 29 l.length) (z_z h) 0 l.length f) s 1 = 0
    rw [hcp_I, if_neg (by omega), hnew_I, if_neg (by omega), e1]
  · show z_I (hcp (hnew h 29 l.length) (z_z h) 0 l.length f) (z_z h) j = _
    rw [hcp_I, if_pos ⟨rfl, Nat.zero_le _, by omega⟩]
    exact hf j hj

theorem u_strInit {e w x y n : Nat} {l : List Nat} (he : 3 ≤ e) (s : sBx h x y l n) (hw : z_isA h w 10 4) (hz : 811 ≤ z_z h) (hz2 : z_z h + 1 < z_top) (H : ∀ f, (∀ j, j < l.length → f j = nI (l.getD j 0)) → Q none (z_uR (hcp (hnew (z_uI h w 1 0) 29 l.length) (z_z h) 0 l.length f) w 0 (some (z_z h)))) : Ok g true e mJ0_init_db425 1 600 [.ref w, .ref x, .null] h Q := by
  obtain ⟨d, rfl⟩ := dn he
  have s2 := s.2.1
  have hwy : w ≠ y := fun q => by subst q; have := hw.2.2.symm.trans s.2.2.2.2.2.2.2.1.2.2; cases this
  refine Ok_of (ls := [.ref w, .ref x, .null, .retAddr 0, .retAddr 0]) (by decide) rfl (Nat.le_of_ble_eq_true rfl) rfl ?_
  refine r_aload_n 0 dJ0_init_db425_0 rfl rfl ?_
  refine r_objInit dJ0_init_db425_1 lo_J0_1 (by omega) (Nat.le_of_ble_eq_true rfl) ?_
  refine r_aload_n 1 dJ0_init_db425_4 rfl rfl ?_
  refine r_callU (C1 := 0) (S1 := 0) (C2 := 1) (S2 := 600) [] [] 0 dJ0_init_db425_5 lk_J0_552_J4 md_J5_getValue_6d5f1 (ci := 11) rfl (by decide) s.2.2.2.1 rfl rfl (Nat.le_of_ble_eq_true rfl) rfl rfl (u_getValue s ?_)
  refine r_astore_n 3 dJ0_init_db425_8 rfl (Nat.le_of_ble_eq_true rfl) rfl ?_
  refine r_aload_n 1 dJ0_init_db425_9 rfl rfl ?_
  refine r_callU (C1 := 0) (S1 := 0) (C2 := 1) (S2 := 600) [] [] 0 dJ0_init_db425_10 lk_J0_549_J4 md_J4_length_8abf5 (ci := 11) rfl (by decide) s.2.2.2.1 rfl rfl (Nat.le_of_ble_eq_true rfl) rfl rfl (u_sbLen (by omega) s ?_)
  refine r_istore dJ0_init_db425_13 (Nat.le_of_ble_eq_true rfl) rfl ?_
  refine r_aload_n 1 dJ0_init_db425_15 rfl rfl ?_
  refine r_callU (C1 := 0) (S1 := 0) (C2 := 1) (S2 := 600) [] [] 0 dJ0_init_db425_16 lk_J0_1047_J4 md_J5_isLatin1_aae02 (ci := 11) rfl (by decide) s.2.2.2.1 rfl rfl (Nat.le_of_ble_eq_true rfl) rfl rfl (u_asbLatin s ?_)
  refine r_if_eq 41 dJ0_init_db425_19 rfl (fun q => absurd q (by decide)) (fun _ => ?_)
  refine r_aload_n 0 dJ0_init_db425_22 rfl rfl ?_
  refine r_iconst (0) dJ0_init_db425_23 rfl ?_
  refine r_putB dJ0_init_db425_24 fp_J0_15_J0 (fun _ => rfl) rfl rfl hw ?_
  refine r_aload_n 0 dJ0_init_db425_27 rfl rfl ?_
  refine r_aload_n 3 dJ0_init_db425_28 rfl rfl ?_
  refine r_iconst (0) dJ0_init_db425_29 rfl ?_
  refine r_iload dJ0_init_db425_30 rfl ?_
  refine r_callS (C1 := 0 + 1) (S1 := 0 + l.length) (C2 := 0) (S2 := 600 - l.length) [.ref y, .int 0, .int (nI l.length)] [.ref w] 3 dJ0_init_db425_32 lk_J0_54 md_J7_copyOfRange_39247 rfl rfl (Nat.le_of_ble_eq_true rfl) rfl (by omega) (u_range (by omega) (h := z_uI h w 1 0) s.2.2.2.2.2.2.2.1 s2.1 (by omega) (fun j hj => by rw [uI_I, if_neg (fun q => hwy q.1.symm)]; exact sB_fit s j hj) hz hz2 (fun f hf => ?_))
  refine r_putR dJ0_init_db425_35 fp_J0_9_J0 (fun _ => rfl) (isA_new (h := z_uI h w 1 0) hw) ?_
  refine r_goto 97 dJ0_init_db425_38 rfl ?_
  exact r_vret dJ0_init_db425_97 rfl (H f (fun j hj => by rw [hf j hj, uI_I, if_neg (fun q => hwy q.1.symm)]; exact s.2.2.2.2.2.2.2.2.2 j hj))

theorem u_strInit2 {e w x y n : Nat} {l : List Nat} (he : 4 ≤ e) (s : sBx h x y l n) (hw : z_isA h w 10 4) (hz : 811 ≤ z_z h) (hz2 : z_z h + 1 < z_top) (H : ∀ f, (∀ j, j < l.length → f j = nI (l.getD j 0)) → Q none (z_uR (hcp (hnew (z_uI h w 1 0) 29 l.length) (z_z h) 0 l.length f) w 0 (some (z_z h)))) : Ok g true e mJ0_init_81219 1 600 [.ref w, .ref x] h Q := by
  obtain ⟨d, rfl⟩ := dn he
  refine Ok_of (ls := [.ref w, .ref x]) (by decide) rfl (Nat.le_of_ble_eq_true rfl) rfl ?_
  refine r_aload_n 0 dJ0_init_81219_0 rfl rfl ?_
  refine r_aload_n 1 dJ0_init_81219_1 rfl rfl ?_
  refine r_null dJ0_init_81219_2 ?_
  refine r_callI (C1 := 1) (S1 := 600) (C2 := 0) (S2 := 0) [.ref x, .null] [] 2 dJ0_init_81219_3 lk_J0_489 md_J0_init_db425 rfl rfl (Nat.le_of_ble_eq_true rfl) rfl rfl (u_strInit (by omega) s hw hz hz2 (fun f hf => ?_))
  exact r_vret dJ0_init_81219_6 rfl (H f hf)

theorem u_toString {e x y n : Nat} {l : List Nat} (he : 5 ≤ e) (s : sBx h x y l n) (hz : 811 ≤ z_z h) (hz2 : z_z h + 2 < z_top) (H : ∀ h2, tS h2 (z_z h) (z_z h + 1) l → hkeep h h2 2 → Q (some (.ref (z_z h))) h2) : Ok g true e mJ4_toString_0e30d (1 + 1) (600 + 4) [.ref x] h Q := by
  obtain ⟨d, rfl⟩ := dn he
  refine Ok_of (ls := [.ref x]) (by decide) rfl (Nat.le_of_ble_eq_true rfl) rfl ?_
  refine r_newG dJ4_toString_0e30d_0 nw_J4_18 hz (by omega) ?_
  refine r_dup dJ4_toString_0e30d_3 rfl ?_
  refine r_aload_n 0 dJ4_toString_0e30d_4 rfl rfl ?_
  refine r_callI (C1 := 1) (S1 := 600) (C2 := 0) (S2 := 0) [.ref x] [.ref (z_z h)] 1 dJ4_toString_0e30d_5 lk_J4_137 md_J0_init_81219 rfl rfl (Nat.le_of_ble_eq_true rfl) rfl rfl (u_strInit2 (by omega) (sBx_new s) (hnew_isA hz) (by show 811 ≤ z_z h + 1; omega) (by show z_z h + 1 + 1 < z_top; omega) (fun f hf => ?_))
  refine r_aret dJ4_toString_0e30d_8 rfl (H _ ?_ ⟨by show z_z h ≤ z_z h + 1 + 1; omega, by show z_z h + 1 + 1 ≤ z_z h + 2; omega, fun a ha => ?_⟩)
  · exact tS_made (h := z_uI (hnew h 10 4) (z_z h) 1 0) s.1 (by have := s.2.1; omega) (hnew_isA hz) (by rw [uI_I, if_pos ⟨rfl, rfl⟩]) (by show 811 ≤ z_z h + 1; omega) hf
  · have n1 : ¬ a = z_z h := by omega
    have n2 : ¬ a = z_z h + 1 := by omega
    refine ⟨?_, fun k => ⟨?_, ?_, ?_⟩⟩
    · show (if a = z_z h + 1 then _ else if a = z_z h then _ else z_T h a) = _
      rw [if_neg n2, if_neg n1]
    · rw [uR_R, if_neg (fun q => n1 q.1)]
      show (if a = z_z h + 1 then _ else if a = z_z h then _ else z_R h a k) = _
      rw [if_neg n2, if_neg n1]
    · show (if a = z_z h + 1 then _ else if a = z_z h then _ else z_L h a k) = _
      rw [if_neg n2, if_neg n1]
    · show z_I (hcp (hnew (z_uI (hnew h 10 4) (z_z h) 1 0) 29 l.length) (z_z h + 1) 0 l.length f) a k = _
      rw [hcp_I, if_neg (fun q => n2 q.1), hnew_I, if_neg (show ¬ a = z_z (z_uI (hnew h 10 4) (z_z h) 1 0) from n2), uI_I, if_neg (fun q => n1 q.1), hnew_I, if_neg n1]

end ZSb3
