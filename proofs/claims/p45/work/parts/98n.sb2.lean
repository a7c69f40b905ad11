/-! StringBuilder: what is appended -/
section ZSb2
variable {g : zG} {gr : Bool} {d : Nat} {M M2 : zM} {C S pc : Nat} {ls st st0 : List Value} {h : zH} {Q : Option Value → zH → Prop}
theorem gD_app1 {l k : List Nat} {j : Nat} (hj : j < l.length) : (l ++ k).getD j 0 = l.getD j 0 := by
  rw [List.getD_eq_getElem?_getD, List.getD_eq_getElem?_getD, List.getElem?_append_left hj]
theorem gD_app2 {l k : List Nat} {j : Nat} (hj : l.length ≤ j) : (l ++ k).getD j 0 = k.getD (j - l.length) 0 := by
  rw [List.getD_eq_getElem?_getD, List.getD_eq_getElem?_getD, List.getElem?_append_right hj]
/-- letters written behind the last, the count not yet raised; then raised -/
theorem sB_put {x y n : Nat} {l k : List Nat} {h2 : zH} (s : sBx h x y l n) (hk : ∀ c ∈ k, c < 128) (hn : l.length + k.length ≤ n) (ez : z_z h2 = z_z h) (eT : z_T h2 = z_T h) (eR : z_R h2 = z_R h) (eL : z_L h2 = z_L h) (eI : ∀ a j, z_I h2 a j = if a = x ∧ j = 3 then nI (l.length + k.length) else if a = y ∧ l.length ≤ j ∧ j < l.length + k.length then nI (k.getD (j - l.length) 0) else z_I h a j) : sBx h2 x y (l ++ k) n ∧ hkp h h2 x y y 0 := by
  obtain ⟨s1, s2, s3, s4, s5, s6, s7, s8, s9, s10⟩ := s
  have hT : ∀ {a t m : Nat}, z_isA h a t m → z_isA h2 a t m := fun ha => ⟨ha.1, by rw [ez]; exact ha.2.1, by rw [eT]; exact ha.2.2⟩
  have hkj : ∀ j, j < k.length → k.getD j 0 < 128 := fun j hj => by
    rw [List.getD_eq_getElem?_getD, List.getElem?_eq_getElem hj]
    exact hk _ (List.getElem_mem hj)
  have hlen : (l ++ k).length = l.length + k.length := List.length_append
  refine ⟨⟨fun c hc => (List.mem_append.mp hc).elim (s1 c) (hk c), ⟨by omega, s2.2⟩, s3, hT s4, by rw [eR]; exact s5, ?_, ?_, hT s8, fun j hj => ?_, fun j hj => ?_⟩, ⟨by omega, by omega, Or.inl rfl, fun a ha => ⟨by rw [eT], fun h1 h3 j => ⟨by rw [eR], by rw [eL], ?_⟩⟩⟩⟩
  · rw [eI, if_neg (by omega), if_neg (by omega)]; exact s6
  · rw [eI, if_pos ⟨rfl, rfl⟩, hlen]
  · rw [eI, if_neg (by omega)]
    by_cases hj2 : l.length ≤ j ∧ j < l.length + k.length
    · rw [if_pos ⟨rfl, hj2⟩]; exact ⟨_, hkj _ (by omega), rfl⟩
    · rw [if_neg (fun w => hj2 w.2)]; exact s9 j hj
  · rw [hlen] at hj
    rw [eI, if_neg (by omega)]
    by_cases hj2 : l.length ≤ j
    · rw [if_pos ⟨rfl, hj2, hj⟩, gD_app2 hj2]
    · rw [if_neg (fun w => hj2 w.2.1), gD_app1 (by omega)]; exact s10 j (by omega)
  · rw [eI, if_neg (fun w => h1 w.1), if_neg (fun w => h3 w.1)]
theorem u_asbLatin {e x y n : Nat} {l : List Nat} (s : sBx h x y l n) (H : Q (some (.int 1)) h) : Ok g gr e mJ5_isLatin1_aae02 0 0 [.ref x] h Q := by
  refine Ok_of (ls := [.ref x]) (by decide) rfl (Nat.le_of_ble_eq_true rfl) rfl ?_

  refine r_getsC dJ5_isLatin1_aae02_0 (lw_good_at (i := 1065) (by decide +kernel) rfl) ?_
  refine r_if_eq 17 dJ5_isLatin1_aae02_3 rfl (fun q => absurd q (by decide)) (fun _ => ?_)
  refine r_aload_n 0 dJ5_isLatin1_aae02_6 rfl rfl ?_
  refine r_getB dJ5_isLatin1_aae02_7 fl_J5_22_J4 s.2.2.2.1 ?_
  rw [s.2.2.2.2.2.1]
  refine r_if_ne 17 dJ5_isLatin1_aae02_10 rfl (fun q => absurd rfl q) (fun _ => ?_)
  refine r_iconst (1) dJ5_isLatin1_aae02_13 rfl ?_
  refine r_goto 18 dJ5_isLatin1_aae02_14 rfl ?_
  exact r_ret (some (.int 1)) ⟨.boolean, rfl, rfl, dJ5_isLatin1_aae02_18⟩ H rfl

theorem u_asbLen {e x y n : Nat} {l : List Nat} (s : sBx h x y l n) (H : Q (some (.int (nI l.length))) h) : Ok g gr e mJ5_length_8abf5 0 0 [.ref x] h Q := by
  refine Ok_of (ls := [.ref x]) (by decide) rfl (Nat.le_of_ble_eq_true rfl) rfl ?_
  refine r_aload_n 0 dJ5_length_8abf5_0 rfl rfl ?_
  refine r_getI dJ5_length_8abf5_1 fl_J5_79_J4 (Or.inl rfl) s.2.2.2.1 ?_
  rw [s.2.2.2.2.2.2.1]
  exact r_iret dJ5_length_8abf5_4 rfl H

theorem u_sbLen {e x y n : Nat} {l : List Nat} (he : 1 ≤ e) (s : sBx h x y l n) (H : Q (some (.int (nI l.length))) h) : Ok g gr e mJ4_length_8abf5 0 0 [.ref x] h Q := by
  obtain ⟨d, rfl⟩ := dn he
  refine Ok_of (ls := [.ref x]) (by decide) rfl (Nat.le_of_ble_eq_true rfl) rfl ?_
  refine r_aload_n 0 dJ4_length_8abf5_0 rfl rfl ?_
  refine r_callSU (C2 := 0) (S2 := 0) [] [] 0 dJ4_length_8abf5_1 sl_J4_343 md_J5_length_8abf5 (ci := 11) rfl (by decide) s.2.2.2.1 rfl rfl (Nat.le_of_ble_eq_true rfl) rfl rfl (u_asbLen s ?_)
  exact r_iret dJ4_length_8abf5_4 rfl H

theorem u_getValue {e x y n : Nat} {l : List Nat} (s : sBx h x y l n) (H : Q (some (.ref y)) h) : Ok g gr e mJ5_getValue_6d5f1 0 0 [.ref x] h Q := by
  refine Ok_of (ls := [.ref x]) (by decide) rfl (Nat.le_of_ble_eq_true rfl) rfl ?_
  refine r_aload_n 0 dJ5_getValue_6d5f1_0 rfl rfl ?_
  refine r_getR dJ5_getValue_6d5f1_1 fl_J5_15_J4 s.2.2.2.1 s.2.2.2.2.1 ?_
  exact r_aretA dJ5_getValue_6d5f1_4 rfl H

theorem u_inflate {e x y n t r : Nat} {l k : List Nat} (he : 1 ≤ e) (s : sBx h x y l n) (ht : tS h t r k) (H : Q none h) : Ok g gr e mJ5_inflateIfNeededFor_a7421 0 0 [.ref x, .ref t] h Q := by
  obtain ⟨d, rfl⟩ := dn he
  refine Ok_of (ls := [.ref x, .ref t]) (by decide) rfl (Nat.le_of_ble_eq_true rfl) rfl ?_
  refine r_getsC dJ5_inflateIfNeededFor_a7421_0 (lw_good_at (i := 1065) (by decide +kernel) rfl) ?_
  refine r_if_eq 21 dJ5_inflateIfNeededFor_a7421_3 rfl (fun q => absurd q (by decide)) (fun _ => ?_)
  refine r_aload_n 0 dJ5_inflateIfNeededFor_a7421_6 rfl rfl ?_
  refine r_getB dJ5_inflateIfNeededFor_a7421_7 fl_J5_22_J4 s.2.2.2.1 ?_
  rw [s.2.2.2.2.2.1]
  refine r_aload_n 1 dJ5_inflateIfNeededFor_a7421_10 rfl rfl ?_
  refine r_callSt (C2 := 0) (S2 := 0) ht [] [.int 0] 0 dJ5_inflateIfNeededFor_a7421_11 lk_J5_40 md_J0_coder_7d493 rfl rfl rfl (Nat.le_of_ble_eq_true rfl) rfl rfl (u_coder ht ?_)
  refine r_icmp_eq 21 dJ5_inflateIfNeededFor_a7421_14 rfl (fun _ => ?_) (fun q => absurd rfl q)
  exact r_vret dJ5_inflateIfNeededFor_a7421_21 rfl H

theorem u_putStr {e x y n t r p : Nat} {l k : List Nat} (he : 2 ≤ e) (s : sBx h x y l n) (ht : tS h t r k) (hp : p + k.length ≤ n) (H : Q none (hcp h y p k.length (fun j => nI (k.getD j 0)))) : Ok g gr e mJ5_putStringAt_47b60 0 0 [.ref x, .int (nI p), .ref t] h Q := by
  obtain ⟨d, rfl⟩ := dn he
  have s2 := s.2.1
  refine Ok_of (ls := [.ref x, .int (nI p), .ref t]) (by decide) rfl (Nat.le_of_ble_eq_true rfl) rfl ?_
  refine r_aload_n 0 dJ5_putStringAt_47b60_0 rfl rfl ?_
  refine r_aload_n 2 dJ5_putStringAt_47b60_1 rfl rfl ?_
  refine r_callP (C2 := 0) (S2 := 0) [.ref t] [] 1 dJ5_putStringAt_47b60_2 lp_J5_397 md_J5_inflateIfNeededFor_a7421 (ci := 11) rfl (by decide) s.2.2.2.1 rfl rfl (Nat.le_of_ble_eq_true rfl) rfl rfl (u_inflate (by omega) s ht ?_)
  refine r_aload_n 2 dJ5_putStringAt_47b60_5 rfl rfl ?_
  refine r_aload_n 0 dJ5_putStringAt_47b60_6 rfl rfl ?_
  refine r_getR dJ5_putStringAt_47b60_7 fl_J5_15_J4 s.2.2.2.1 s.2.2.2.2.1 ?_
  refine r_iload_n 1 dJ5_putStringAt_47b60_10 rfl rfl ?_
  refine r_aload_n 0 dJ5_putStringAt_47b60_11 rfl rfl ?_
  refine r_getB dJ5_putStringAt_47b60_12 fl_J5_22_J4 s.2.2.2.1 ?_
  rw [s.2.2.2.2.2.1]
  refine r_callSt (C2 := 0) (S2 := 0) ht [.ref y, .int (nI p), .int 0] [] 3 dJ5_putStringAt_47b60_15 lk_J5_399 md_J0_getBytes_840e7 rfl rfl rfl (Nat.le_of_ble_eq_true rfl) rfl rfl (u_getBytes (by omega) ht s.2.2.2.2.2.2.2.1 hp (by omega) ?_)
  exact r_vret dJ5_putStringAt_47b60_18 rfl H

theorem u_asbAppS {e x y n t r : Nat} {l k : List Nat} (he : 4 ≤ e) (s : sBx h x y l n) (ht : tS h t r k) (hr : r ≠ y) (hlk : l.length + k.length ≤ 300) (hz : 811 ≤ z_z h) (hz2 : z_z h + 1 < z_top) (H : ∀ h2 y2 n2, sBx h2 x y2 (l ++ k) n2 → hkp h h2 x y y2 1 → Q (some (.ref x)) h2) : Ok g true e mJ5_append_cf1ce 1 600 [.ref x, .ref t] h Q := by
  obtain ⟨d, rfl⟩ := dn he
  refine Ok_of (ls := [.ref x, .ref t, .retAddr 0]) (by decide) rfl (Nat.le_of_ble_eq_true rfl) rfl ?_
  refine r_aload_n 1 dJ5_append_cf1ce_0 rfl rfl ?_
  refine r_ifnonnullR 9 dJ5_append_cf1ce_1 rfl ?_
  refine r_aload_n 1 dJ5_append_cf1ce_9 rfl rfl ?_
  refine r_callSt (C1 := 0) (S1 := 0) (C2 := 1) (S2 := 600) ht [] [] 0 dJ5_append_cf1ce_10 lk_J5_32 md_J0_length_8abf5 rfl rfl rfl (Nat.le_of_ble_eq_true rfl) rfl rfl (u_length (by omega) ht ?_)
  refine r_istore_n 2 dJ5_append_cf1ce_13 rfl (Nat.le_of_ble_eq_true rfl) rfl ?_
  refine r_aload_n 0 dJ5_append_cf1ce_14 rfl rfl ?_
  refine r_aload_n 0 dJ5_append_cf1ce_15 rfl rfl ?_
  refine r_getI dJ5_append_cf1ce_16 fl_J5_79_J4 (Or.inl rfl) s.2.2.2.1 ?_
  rw [s.2.2.2.2.2.2.1]
  refine r_iload_n 2 dJ5_append_cf1ce_19 rfl rfl ?_
  refine r_iadd dJ5_append_cf1ce_20 ?_
  rw [nI_add]
  refine r_callP (C1 := 1) (S1 := 600) (C2 := 0) (S2 := 0) [.int (nI (l.length + k.length))] [] 1 dJ5_append_cf1ce_21 lp_J5_100 md_J5_ensureCapacityInternal_d00df (ci := 11) rfl (by decide) s.2.2.2.1 rfl rfl (Nat.le_of_ble_eq_true rfl) rfl rfl (u_ensure (by omega) s hlk hz hz2 (fun h1 y1 n1 s1 hn1 k1 => ?_))
  have hz1 : z_z h1 < z_top := by have := k1.2.1; omega
  obtain ⟨ht1, hr1⟩ := hkp_tS k1 s.2.2.2.1 ht hr ⟨_, s.2.2.2.2.2.2.2.1⟩ hz1 s1.2.2.2.2.2.2.2.1.2.1
  refine r_aload_n 0 dJ5_append_cf1ce_24 rfl rfl ?_
  refine r_aload_n 0 dJ5_append_cf1ce_25 rfl rfl ?_
  refine r_getI dJ5_append_cf1ce_26 fl_J5_79_J4 (Or.inl rfl) s1.2.2.2.1 ?_
  rw [s1.2.2.2.2.2.2.1]
  refine r_aload_n 1 dJ5_append_cf1ce_29 rfl rfl ?_
  refine r_callP (C2 := 0) (S2 := 0) [.int (nI l.length), .ref t] [] 2 dJ5_append_cf1ce_30 lp_J5_208 md_J5_putStringAt_47b60 (ci := 11) rfl (by decide) s1.2.2.2.1 rfl rfl (Nat.le_of_ble_eq_true rfl) rfl rfl (u_putStr (by omega) s1 ht1 hn1 ?_)
  refine r_aload_n 0 dJ5_append_cf1ce_33 rfl rfl ?_
  refine r_dup dJ5_append_cf1ce_34 rfl ?_
  refine r_getI dJ5_append_cf1ce_35 fl_J5_79_J4 (Or.inl rfl) s1.2.2.2.1 ?_
  rw [show z_I (hcp h1 y1 l.length k.length (fun j => nI (k.getD j 0))) x 3 = nI l.length by rw [hcp_I, if_neg (fun w => s1.2.2.1.2.2 w.1)]; exact s1.2.2.2.2.2.2.1]
  refine r_iload_n 2 dJ5_append_cf1ce_38 rfl rfl ?_
  refine r_iadd dJ5_append_cf1ce_39 ?_
  rw [nI_add]
  refine r_putI dJ5_append_cf1ce_40 fp_J5_79_J4 (Or.inl rfl) s1.2.2.2.1 ?_
  refine r_aload_n 0 dJ5_append_cf1ce_43 rfl rfl ?_
  obtain ⟨f1, f2⟩ := sB_put (h2 := z_uI (hcp h1 y1 l.length k.length (fun j => nI (k.getD j 0))) x 3 (nI (l.length + k.length))) s1 ht1.1 hn1 rfl rfl rfl rfl (fun a j => rfl)
  exact r_aret dJ5_append_cf1ce_44 rfl (H _ y1 n1 f1 (hkp_trans k1 f2))

theorem u_canEnc {e c : Nat} (hc : c < 128) (H : Q (some (.int 1)) h) : Ok g gr e mJ1_canEncode_fc78d 0 0 [.int (nI c)] h Q := by
  refine Ok_of (ls := [.int (nI c)]) (by decide) rfl (Nat.le_of_ble_eq_true rfl) rfl ?_
  refine r_iload_n 0 dJ1_canEncode_fc78d_0 rfl rfl ?_
  refine r_sipush (255) dJ1_canEncode_fc78d_1 rfl ?_
  refine r_icmp_gt 11 dJ1_canEncode_fc78d_4 rfl (fun q => absurd q (show ¬ nI 255 < nI c from nI_nlt (by omega) (by decide))) (fun _ => ?_)
  refine r_iconst (1) dJ1_canEncode_fc78d_7 rfl ?_
  refine r_goto 12 dJ1_canEncode_fc78d_8 rfl ?_
  exact r_ret (some (.int 1)) ⟨.boolean, rfl, rfl, dJ1_canEncode_fc78d_12⟩ H rfl

theorem u_asbAppC {e x y n c : Nat} {l : List Nat} (he : 4 ≤ e) (s : sBx h x y l n) (hc : c < 128) (hlk : l.length + 1 ≤ 300) (hz : 811 ≤ z_z h) (hz2 : z_z h + 1 < z_top) (H : ∀ h2 y2 n2, sBx h2 x y2 (l ++ [c]) n2 → hkp h h2 x y y2 1 → Q (some (.ref x)) h2) : Ok g true e mJ5_append_3fe6f 1 600 [.ref x, .int (nI c)] h Q := by
  obtain ⟨d, rfl⟩ := dn he
  refine Ok_of (ls := [.ref x, .int (nI c)]) (by decide) rfl (Nat.le_of_ble_eq_true rfl) rfl ?_
  refine r_aload_n 0 dJ5_append_3fe6f_0 rfl rfl ?_
  refine r_aload_n 0 dJ5_append_3fe6f_1 rfl rfl ?_
  refine r_getI dJ5_append_3fe6f_2 fl_J5_79_J4 (Or.inl rfl) s.2.2.2.1 ?_
  rw [s.2.2.2.2.2.2.1]
  refine r_iconst (1) dJ5_append_3fe6f_5 rfl ?_
  refine r_iadd dJ5_append_3fe6f_6 ?_
  rw [show nI l.length + 1 = nI (l.length + 1) from nI_1 _]
  refine r_callP (C1 := 1) (S1 := 600) (C2 := 0) (S2 := 0) [.int (nI (l.length + 1))] [] 1 dJ5_append_3fe6f_7 lp_J5_100 md_J5_ensureCapacityInternal_d00df (ci := 11) rfl (by decide) s.2.2.2.1 rfl rfl (Nat.le_of_ble_eq_true rfl) rfl rfl (u_ensure (by omega) s hlk hz hz2 (fun h1 y1 n1 s1 hn1 k1 => ?_))
  have s2 := s1.2.1
  refine r_aload_n 0 dJ5_append_3fe6f_10 rfl rfl ?_
  refine r_callU (C2 := 0) (S2 := 0) [] [] 0 dJ5_append_3fe6f_11 lk_J5_83_J4 md_J5_isLatin1_aae02 (ci := 11) rfl (by decide) s1.2.2.2.1 rfl rfl (Nat.le_of_ble_eq_true rfl) rfl rfl (u_asbLatin s1 ?_)
  refine r_if_eq 45 dJ5_append_3fe6f_14 rfl (fun q => absurd q (by decide)) (fun _ => ?_)
  refine r_iload_n 1 dJ5_append_3fe6f_17 rfl rfl ?_
  refine r_callS (C2 := 0) (S2 := 0) [.int (nI c)] [] 1 dJ5_append_3fe6f_18 lk_J5_191 md_J1_canEncode_fc78d rfl rfl (Nat.le_of_ble_eq_true rfl) rfl rfl (u_canEnc hc ?_)
  refine r_if_eq 45 dJ5_append_3fe6f_21 rfl (fun q => absurd q (by decide)) (fun _ => ?_)
  refine r_aload_n 0 dJ5_append_3fe6f_24 rfl rfl ?_
  refine r_getR dJ5_append_3fe6f_25 fl_J5_15_J4 s1.2.2.2.1 s1.2.2.2.2.1 ?_
  refine r_aload_n 0 dJ5_append_3fe6f_28 rfl rfl ?_
  refine r_dup dJ5_append_3fe6f_29 rfl ?_
  refine r_getI dJ5_append_3fe6f_30 fl_J5_79_J4 (Or.inl rfl) s1.2.2.2.1 ?_
  rw [s1.2.2.2.2.2.2.1]
  refine r_dupx1 dJ5_append_3fe6f_33 rfl rfl ?_
  refine r_iconst (1) dJ5_append_3fe6f_34 rfl ?_
  refine r_iadd dJ5_append_3fe6f_35 ?_
  rw [show nI l.length + 1 = nI (l.length + 1) from nI_1 _]
  refine r_putI dJ5_append_3fe6f_36 fp_J5_79_J4 (Or.inl rfl) s1.2.2.2.1 ?_
  refine r_iload_n 1 dJ5_append_3fe6f_39 rfl rfl ?_
  refine r_i2b dJ5_append_3fe6f_40 (c7_fit hc).2.2.2.2.1 ?_
  refine r_bsB dJ5_append_3fe6f_41 (n := n1) s1.2.2.2.2.2.2.2.1 (vp_in_nI (by omega) (by omega)) (c7_fit hc).2.1 ?_
  rw [nI_clamp (show l.length < 2 ^ 31 by omega)]
  refine r_goto 75 dJ5_append_3fe6f_42 rfl ?_
  refine r_aload_n 0 dJ5_append_3fe6f_75 rfl rfl ?_
  obtain ⟨f1, f2⟩ := sB_put (k := [c]) (h2 := z_uI (z_uI h1 x 3 (nI (l.length + 1))) y1 l.length (nI c)) s1 (fun q hq => by rw [List.mem_singleton] at hq; rw [hq]; exact hc) hn1 rfl rfl rfl rfl (fun a j => by
    rw [uI_I, uI_I]
    by_cases w : a = y1 ∧ j = l.length
    · obtain ⟨rfl, rfl⟩ := w
      rw [if_pos ⟨rfl, rfl⟩, if_neg (fun w => s1.2.2.1.2.2 w.1.symm), if_pos ⟨rfl, Nat.le_refl _, Nat.lt_succ_self _⟩, Nat.sub_self]; rfl
    · rw [if_neg w]
      by_cases v : a = x ∧ j = 3
      · rw [if_pos v, if_pos v]; rfl
      · rw [if_neg v, if_neg v, if_neg (fun u => w ⟨u.1, by have := u.2; simp only [List.length_singleton] at this; omega⟩)])
  exact r_aret dJ5_append_3fe6f_76 rfl (H _ y1 n1 f1 (hkp_trans k1 f2))

theorem neg10 : ∀ v, v < 10 → ¬ (-nI v ≤ -10) := by decide +kernel
theorem u_size1 {e v : Nat} (hv : v < 10) (H : Q (some (.int 1)) h) : Ok g gr e mJ6_stringSize_0f7a4 0 0 [.int (nI v)] h Q := by
  refine Ok_of (ls := [.int (nI v), .retAddr 0, .retAddr 0, .retAddr 0]) (by decide) rfl (Nat.le_of_ble_eq_true rfl) rfl ?_
  refine r_iconst (1) dJ6_stringSize_0f7a4_0 rfl ?_
  refine r_istore_n 1 dJ6_stringSize_0f7a4_1 rfl (Nat.le_of_ble_eq_true rfl) rfl ?_
  refine r_iload_n 0 dJ6_stringSize_0f7a4_2 rfl rfl ?_
  refine r_if_lt 11 dJ6_stringSize_0f7a4_3 rfl (fun q => absurd q (nI_pos (by omega))) (fun _ => ?_)
  refine r_iconst (0) dJ6_stringSize_0f7a4_6 rfl ?_
  refine r_istore_n 1 dJ6_stringSize_0f7a4_7 rfl (Nat.le_of_ble_eq_true rfl) rfl ?_
  refine r_iload_n 0 dJ6_stringSize_0f7a4_8 rfl rfl ?_
  refine r_ineg dJ6_stringSize_0f7a4_9 rfl ?_
  refine r_istore_n 0 dJ6_stringSize_0f7a4_10 rfl (Nat.le_of_ble_eq_true rfl) rfl ?_
  refine r_bipush (-10) dJ6_stringSize_0f7a4_11 rfl ?_
  refine r_istore_n 2 dJ6_stringSize_0f7a4_13 rfl (Nat.le_of_ble_eq_true rfl) rfl ?_
  refine r_iconst (1) dJ6_stringSize_0f7a4_14 rfl ?_
  refine r_istore_n 3 dJ6_stringSize_0f7a4_15 rfl (Nat.le_of_ble_eq_true rfl) rfl ?_
  refine r_iload_n 3 dJ6_stringSize_0f7a4_16 rfl rfl ?_
  refine r_bipush (10) dJ6_stringSize_0f7a4_17 rfl ?_
  refine r_icmp_ge 42 dJ6_stringSize_0f7a4_19 rfl (fun q => absurd q (by decide)) (fun _ => ?_)
  refine r_iload_n 0 dJ6_stringSize_0f7a4_22 rfl rfl ?_
  refine r_iload_n 2 dJ6_stringSize_0f7a4_23 rfl rfl ?_
  refine r_icmp_le 31 dJ6_stringSize_0f7a4_24 rfl (fun q => absurd q (neg10 v hv)) (fun _ => ?_)
  refine r_iload_n 3 dJ6_stringSize_0f7a4_27 rfl rfl ?_
  refine r_iload_n 1 dJ6_stringSize_0f7a4_28 rfl rfl ?_
  refine r_iadd dJ6_stringSize_0f7a4_29 ?_
  exact r_iret dJ6_stringSize_0f7a4_30 rfl H

theorem r_getsDO {ix : Nat} (hd : decode M.2.1 pc = .ok (.getstatic ix, 3)) (hl : Cond.fieldLink M.1.cls ix "java/lang/Integer" "DigitOnes" "[B" ∈ lw_good) (k : WP g gr d M C S (pc + 3) ls (.ref (z_top + 23) :: st) h Q) : WP g gr d M C S pc ls st h Q := by
  intro p e R s m args below meth c mc ms QQ fx ret hmc hms H locs cells slots real rel lo lv hc hs
  obtain ⟨⟨cf, kf, fi, f, a, cell, h1, h2, h3, h4, h5, h6, h7, h8⟩, -⟩ := z_doAt fx.2.1.tx rel
  have := k p e R s m args below meth c mc ms QQ fx ret hmc hms H locs cells slots real rel lo lv hc hs
  rw [List.map_cons, z_trT] at this
  exact W.gets fx.1.1 fx.1.2.1 fx.1.2.2.2.1 (fx.1.2.2.2.2 _ hl) h1 h2 h3 h4 h5 (fun e => by rw [e] at h6; cases h6) h7 rfl hd this
theorem r_baDO {v : Nat} (hv : v < 10) (hd : decode M.2.1 pc = .ok (.baload, 1)) (k : WP g gr d M C S (pc + 1) ls (.int (nI (48 + v)) :: st) h Q) : WP g gr d M C S pc ls (.int (nI v) :: .ref (z_top + 23) :: st) h Q := by
  intro p e R s m args below meth c mc ms QQ fx ret hmc hms H locs cells slots real rel lo lv hc hs
  obtain ⟨-, cell, h1, h2, h3, h4, h5, h6, h7⟩ := z_doAt fx.2.1.tx rel
  have this := k p e R s m args below meth c mc ms QQ fx ret hmc hms H locs cells slots real rel lo lv hc hs
  rw [List.map_cons, List.map_cons, z_trT]
  refine W.bald fx.1.1 fx.1.2.1 h1 h2 h3 (j := nI v) ?_ (v := .int (nI (48 + v))) ?_ rfl rfl hd this
  · rw [nI_clamp (show v < 2 ^ 31 by omega)]
    rintro (q | q)
    · exact i_nn (show v < 2 ^ 31 by omega) q
    · omega
  · rw [nI_clamp (show v < 2 ^ 31 by omega)]
    refine (h6 v (by omega)).trans ?_
    show some (Value.int (Int32.ofNat (48 + v % 10))) = _
    rw [Nat.mod_eq_of_lt hv]
    rfl
theorem neg9 : ∀ v, v < 10 → (-100 : Int32) < -nI v ∧ (-9 : Int32) ≤ -nI v ∧ -(-nI v) = nI v ∧ 0 ≤ nI v := by decide +kernel
theorem u_getChars {e v p b n : Nat} (hv : v < 10) (hb : z_isA h b 29 n) (hp : p < n) (hn : n < 65536) (H : Q (some (.int (nI p))) (z_uI h b p (nI (48 + v)))) : Ok g gr e mJ6_getChars_ba4f3 0 0 [.int (nI v), .int (nI (p + 1)), .ref b] h Q := by
  obtain ⟨n1, n2, n3, n4⟩ := neg9 v hv
  have e1 : nI (p + 1) + (-1) = nI p := by
    have : (-1 : Int32) = - nI 1 := rfl
    rw [this, ← Int32.sub_eq_add_neg]
    exact pk_sub (a := p + 1) (b := 1) (by omega)
  refine Ok_of (ls := [.int (nI v), .int (nI (p + 1)), .ref b, .retAddr 0, .retAddr 0, .retAddr 0, .retAddr 0]) (by decide) rfl (Nat.le_of_ble_eq_true rfl) rfl ?_
  refine r_iload_n 1 dJ6_getChars_ba4f3_0 rfl rfl ?_
  refine r_istore dJ6_getChars_ba4f3_1 (Nat.le_of_ble_eq_true rfl) rfl ?_
  refine r_iload_n 0 dJ6_getChars_ba4f3_3 rfl rfl ?_
  refine r_if_ge 11 dJ6_getChars_ba4f3_4 rfl (fun _ => ?_) (fun q => absurd n4 q)
  refine r_iconst (0) dJ6_getChars_ba4f3_11 rfl ?_
  refine r_istore dJ6_getChars_ba4f3_12 (Nat.le_of_ble_eq_true rfl) rfl ?_
  refine r_iload dJ6_getChars_ba4f3_14 rfl ?_
  refine r_if_ne 22 dJ6_getChars_ba4f3_16 rfl (fun q => absurd rfl q) (fun _ => ?_)
  refine r_iload_n 0 dJ6_getChars_ba4f3_19 rfl rfl ?_
  refine r_ineg dJ6_getChars_ba4f3_20 rfl ?_
  refine r_istore_n 0 dJ6_getChars_ba4f3_21 rfl (Nat.le_of_ble_eq_true rfl) rfl ?_
  refine r_iload_n 0 dJ6_getChars_ba4f3_22 rfl rfl ?_
  refine r_bipush (-100) dJ6_getChars_ba4f3_23 rfl ?_
  refine r_icmp_gt 72 dJ6_getChars_ba4f3_25 rfl (fun _ => ?_) (fun q => absurd n1 q)
  refine r_aload_n 2 dJ6_getChars_ba4f3_72 rfl rfl ?_
  refine r_iinc 5 (-1) dJ6_getChars_ba4f3_73 rfl rfl (Nat.le_of_ble_eq_true rfl) rfl ?_
  rw [show nI (p + 1) + (-1) = nI p from e1]
  refine r_iload dJ6_getChars_ba4f3_76 rfl ?_
  refine r_getsDO dJ6_getChars_ba4f3_78 (lw_good_at (i := 1139) (by decide +kernel) rfl) ?_
  refine r_iload_n 0 dJ6_getChars_ba4f3_81 rfl rfl ?_
  refine r_ineg dJ6_getChars_ba4f3_82 n3 ?_
  refine r_baDO hv dJ6_getChars_ba4f3_83 ?_
  refine r_bsB dJ6_getChars_ba4f3_84 hb (vp_in_nI hp (by omega)) (c7_fit (by omega)).2.1 ?_
  rw [nI_clamp (show p < 2 ^ 31 by omega)]
  refine r_iload_n 0 dJ6_getChars_ba4f3_85 rfl rfl ?_
  refine r_bipush (-9) dJ6_getChars_ba4f3_86 rfl ?_
  refine r_icmp_ge 104 dJ6_getChars_ba4f3_88 rfl (fun _ => ?_) (fun q => absurd n2 q)
  refine r_iload dJ6_getChars_ba4f3_104 rfl ?_
  refine r_if_eq 118 dJ6_getChars_ba4f3_106 rfl (fun _ => ?_) (fun q => absurd rfl q)
  refine r_iload dJ6_getChars_ba4f3_118 rfl ?_
  exact r_iret dJ6_getChars_ba4f3_120 rfl H

theorem u_asbAppI {e x y n v : Nat} {l : List Nat} (he : 4 ≤ e) (s : sBx h x y l n) (hv : v < 10) (hlk : l.length + 1 ≤ 300) (hz : 811 ≤ z_z h) (hz2 : z_z h + 1 < z_top) (H : ∀ h2 y2 n2, sBx h2 x y2 (l ++ [48 + v]) n2 → hkp h h2 x y y2 1 → Q (some (.ref x)) h2) : Ok g true e mJ5_append_c97b9 1 600 [.ref x, .int (nI v)] h Q := by
  obtain ⟨d, rfl⟩ := dn he
  refine Ok_of (ls := [.ref x, .int (nI v), .retAddr 0, .retAddr 0]) (by decide) rfl (Nat.le_of_ble_eq_true rfl) rfl ?_
  refine r_aload_n 0 dJ5_append_c97b9_0 rfl rfl ?_
  refine r_getI dJ5_append_c97b9_1 fl_J5_79_J4 (Or.inl rfl) s.2.2.2.1 ?_
  rw [s.2.2.2.2.2.2.1]
  refine r_istore_n 2 dJ5_append_c97b9_4 rfl (Nat.le_of_ble_eq_true rfl) rfl ?_
  refine r_iload_n 2 dJ5_append_c97b9_5 rfl rfl ?_
  refine r_iload_n 1 dJ5_append_c97b9_6 rfl rfl ?_
  refine r_callS (C1 := 0) (S1 := 0) (C2 := 1) (S2 := 600) [.int (nI v)] [.int (nI l.length)] 1 dJ5_append_c97b9_7 lk_J5_245 md_J6_stringSize_0f7a4 rfl rfl (Nat.le_of_ble_eq_true rfl) rfl rfl (u_size1 hv ?_)
  refine r_iadd dJ5_append_c97b9_10 ?_
  rw [show nI l.length + 1 = nI (l.length + 1) from nI_1 _]
  refine r_istore_n 3 dJ5_append_c97b9_11 rfl (Nat.le_of_ble_eq_true rfl) rfl ?_
  refine r_aload_n 0 dJ5_append_c97b9_12 rfl rfl ?_
  refine r_iload_n 3 dJ5_append_c97b9_13 rfl rfl ?_
  refine r_callP (C1 := 1) (S1 := 600) (C2 := 0) (S2 := 0) [.int (nI (l.length + 1))] [] 1 dJ5_append_c97b9_14 lp_J5_100 md_J5_ensureCapacityInternal_d00df (ci := 11) rfl (by decide) s.2.2.2.1 rfl rfl (Nat.le_of_ble_eq_true rfl) rfl rfl (u_ensure (by omega) s hlk hz hz2 (fun h1 y1 n1 s1 hn1 k1 => ?_))
  have s2 := s1.2.1
  refine r_aload_n 0 dJ5_append_c97b9_17 rfl rfl ?_
  refine r_callU (C2 := 0) (S2 := 0) [] [] 0 dJ5_append_c97b9_18 lk_J5_83_J4 md_J5_isLatin1_aae02 (ci := 11) rfl (by decide) s1.2.2.2.1 rfl rfl (Nat.le_of_ble_eq_true rfl) rfl rfl (u_asbLatin s1 ?_)
  refine r_if_eq 37 dJ5_append_c97b9_21 rfl (fun q => absurd q (by decide)) (fun _ => ?_)
  refine r_iload_n 1 dJ5_append_c97b9_24 rfl rfl ?_
  refine r_iload_n 3 dJ5_append_c97b9_25 rfl rfl ?_
  refine r_aload_n 0 dJ5_append_c97b9_26 rfl rfl ?_
  refine r_getR dJ5_append_c97b9_27 fl_J5_15_J4 s1.2.2.2.1 s1.2.2.2.2.1 ?_
  refine r_callS (C2 := 0) (S2 := 0) [.int (nI v), .int (nI (l.length + 1)), .ref y1] [] 3 dJ5_append_c97b9_30 lk_J5_248 md_J6_getChars_ba4f3 rfl rfl (Nat.le_of_ble_eq_true rfl) rfl rfl (u_getChars hv s1.2.2.2.2.2.2.2.1 (by omega) (by omega) ?_)
  refine r_pop dJ5_append_c97b9_33 rfl ?_
  refine r_goto 48 dJ5_append_c97b9_34 rfl ?_
  refine r_aload_n 0 dJ5_append_c97b9_48 rfl rfl ?_
  refine r_iload_n 3 dJ5_append_c97b9_49 rfl rfl ?_
  refine r_putI dJ5_append_c97b9_50 fp_J5_79_J4 (Or.inl rfl) s1.2.2.2.1 ?_
  refine r_aload_n 0 dJ5_append_c97b9_53 rfl rfl ?_
  obtain ⟨f1, f2⟩ := sB_put (k := [48 + v]) (h2 := z_uI (z_uI h1 y1 l.length (nI (48 + v))) x 3 (nI (l.length + 1))) s1 (fun q hq => by rw [List.mem_singleton] at hq; omega) hn1 rfl rfl rfl rfl (fun a j => by
    rw [uI_I, uI_I]
    by_cases v2 : a = x ∧ j = 3
    · rw [if_pos v2, if_pos v2]; rfl
    · rw [if_neg v2, if_neg v2]
      by_cases w : a = y1 ∧ j = l.length
      · obtain ⟨rfl, rfl⟩ := w
        rw [if_pos ⟨rfl, rfl⟩, if_pos ⟨rfl, Nat.le_refl _, Nat.lt_succ_self _⟩, Nat.sub_self]; rfl
      · rw [if_neg w, if_neg (fun u => w ⟨u.1, by have := u.2; simp only [List.length_singleton] at this; omega⟩)])
  exact r_aret dJ5_append_c97b9_54 rfl (H _ y1 n1 f1 (hkp_trans k1 f2))

theorem u_appS {e x y n t r : Nat} {l k : List Nat} (he : 5 ≤ e) (s : sBx h x y l n) (ht : tS h t r k) (hr : r ≠ y) (hlk : l.length + k.length ≤ 300) (hz : 811 ≤ z_z h) (hz2 : z_z h + 1 < z_top) (H : ∀ h2 y2 n2, sBx h2 x y2 (l ++ k) n2 → hkp h h2 x y y2 1 → Q (some (.ref x)) h2) : Ok g true e mJ4_append_15ec4 1 600 [.ref x, .ref t] h Q := by
  obtain ⟨d, rfl⟩ := dn he
  refine Ok_of (ls := [.ref x, .ref t]) (by decide) rfl (Nat.le_of_ble_eq_true rfl) rfl ?_
  refine r_aload_n 0 dJ4_append_15ec4_0 rfl rfl ?_
  refine r_aload_n 1 dJ4_append_15ec4_1 rfl rfl ?_
  refine r_callSU (C1 := 1) (S1 := 600) (C2 := 0) (S2 := 0) [.ref t] [] 1 dJ4_append_15ec4_2 sl_J4_29 md_J5_append_cf1ce (ci := 11) rfl (by decide) s.2.2.2.1 rfl rfl (Nat.le_of_ble_eq_true rfl) rfl rfl (u_asbAppS (by omega) s ht hr hlk hz hz2 (fun h2 y2 n2 f1 f2 => ?_))
  refine r_pop dJ4_append_15ec4_5 rfl ?_
  refine r_aload_n 0 dJ4_append_15ec4_6 rfl rfl ?_
  exact r_aret dJ4_append_15ec4_7 rfl (H _ y2 n2 f1 f2)

theorem u_appC {e x y n c : Nat} {l : List Nat} (he : 5 ≤ e) (s : sBx h x y l n) (hc : c < 128) (hlk : l.length + 1 ≤ 300) (hz : 811 ≤ z_z h) (hz2 : z_z h + 1 < z_top) (H : ∀ h2 y2 n2, sBx h2 x y2 (l ++ [c]) n2 → hkp h h2 x y y2 1 → Q (some (.ref x)) h2) : Ok g true e mJ4_append_cf468 1 600 [.ref x, .int (nI c)] h Q := by
  obtain ⟨d, rfl⟩ := dn he
  refine Ok_of (ls := [.ref x, .int (nI c)]) (by decide) rfl (Nat.le_of_ble_eq_true rfl) rfl ?_
  refine r_aload_n 0 dJ4_append_cf468_0 rfl rfl ?_
  refine r_iload_n 1 dJ4_append_cf468_1 rfl rfl ?_
  refine r_callSU (C1 := 1) (S1 := 600) (C2 := 0) (S2 := 0) [.int (nI c)] [] 1 dJ4_append_cf468_2 sl_J4_50 md_J5_append_3fe6f (ci := 11) rfl (by decide) s.2.2.2.1 rfl rfl (Nat.le_of_ble_eq_true rfl) rfl rfl (u_asbAppC (by omega) s hc hlk hz hz2 (fun h2 y2 n2 f1 f2 => ?_))
  refine r_pop dJ4_append_cf468_5 rfl ?_
  refine r_aload_n 0 dJ4_append_cf468_6 rfl rfl ?_
  exact r_aret dJ4_append_cf468_7 rfl (H _ y2 n2 f1 f2)

theorem u_appI {e x y n v : Nat} {l : List Nat} (he : 5 ≤ e) (s : sBx h x y l n) (hv : v < 10) (hlk : l.length + 1 ≤ 300) (hz : 811 ≤ z_z h) (hz2 : z_z h + 1 < z_top) (H : ∀ h2 y2 n2, sBx h2 x y2 (l ++ [48 + v]) n2 → hkp h h2 x y y2 1 → Q (some (.ref x)) h2) : Ok g true e mJ4_append_bf812 1 600 [.ref x, .int (nI v)] h Q := by
  obtain ⟨d, rfl⟩ := dn he
  refine Ok_of (ls := [.ref x, .int (nI v)]) (by decide) rfl (Nat.le_of_ble_eq_true rfl) rfl ?_
  refine r_aload_n 0 dJ4_append_bf812_0 rfl rfl ?_
  refine r_iload_n 1 dJ4_append_bf812_1 rfl rfl ?_
  refine r_callSU (C1 := 1) (S1 := 600) (C2 := 0) (S2 := 0) [.int (nI v)] [] 1 dJ4_append_bf812_2 sl_J4_53 md_J5_append_c97b9 (ci := 11) rfl (by decide) s.2.2.2.1 rfl rfl (Nat.le_of_ble_eq_true rfl) rfl rfl (u_asbAppI (by omega) s hv hlk hz hz2 (fun h2 y2 n2 f1 f2 => ?_))
  refine r_pop dJ4_append_bf812_5 rfl ?_
  refine r_aload_n 0 dJ4_append_bf812_6 rfl rfl ?_
  exact r_aret dJ4_append_bf812_7 rfl (H _ y2 n2 f1 f2)

theorem u_appB {e x y n t r : Nat} {l k : List Nat} (he : 6 ≤ e) (s : sBx h x y l n) (ht : tS h t r k) (hr : r ≠ y) (hlk : l.length + k.length ≤ 300) (hz : 811 ≤ z_z h) (hz2 : z_z h + 1 < z_top) (H : ∀ h2 y2 n2, sBx h2 x y2 (l ++ k) n2 → hkp h h2 x y y2 1 → Q (some (.ref x)) h2) : Ok g true e mJ4_append_cf1ce 1 600 [.ref x, .ref t] h Q := by
  obtain ⟨d, rfl⟩ := dn he
  refine Ok_of (ls := [.ref x, .ref t]) (by decide) rfl (Nat.le_of_ble_eq_true rfl) rfl ?_
  refine r_aload_n 0 dJ4_append_cf1ce_0 rfl rfl ?_
  refine r_aload_n 1 dJ4_append_cf1ce_1 rfl rfl ?_
  refine r_callV (C1 := 1) (S1 := 600) (C2 := 0) (S2 := 0) [.ref t] [] 1 dJ4_append_cf1ce_2 lk_J4_23 md_J4_append_15ec4 (ci := 11) rfl rfl (by decide) s.2.2.2.1 rfl rfl (Nat.le_of_ble_eq_true rfl) rfl rfl (u_appS (by omega) s ht hr hlk hz hz2 (fun h2 y2 n2 f1 f2 => ?_))
  exact r_aret dJ4_append_cf1ce_5 rfl (H _ y2 n2 f1 f2)

end ZSb2
