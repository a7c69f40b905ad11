/-! StringBuilder as a list of letters -/
section ZSb
variable {g : zG} {gr : Bool} {d : Nat} {M M2 : zM} {C S pc : Nat} {ls st st0 : List Value} {h : zH} {Q : Option Value → zH → Prop}
theorem WP_mono {C' S' : Nat} (hC : C ≤ C') (hS : S ≤ S') (k : WP g gr d M C S pc ls st h Q) : WP g gr d M C' S' pc ls st h Q := by
  intro p e R s m args below meth c mc ms QQ fx ret hmc hms H locs cells slots real rel lo lv hc hs
  exact k p e R s m args below meth c mc ms QQ fx ret hmc hms H locs cells slots real rel lo lv (by omega) (by omega)
theorem ac_byte : Cond.arrayClass .byte ∈ lw_good := lw_good_at (i := 990) (by decide +kernel) rfl
theorem lo_J5_3 : z_LO "java/lang/AbstractStringBuilder" 3 := ⟨lw_good_at (i := 1003) (by decide +kernel) rfl, lw_good_at (i := 64) (by decide +kernel) rfl, lw_good_at (i := 65) (by decide +kernel) rfl⟩
theorem lo_J0_1 : z_LO "java/lang/String" 1 := ⟨lw_good_at (i := 1179) (by decide +kernel) rfl, lw_good_at (i := 64) (by decide +kernel) rfl, lw_good_at (i := 65) (by decide +kernel) rfl⟩
theorem sl_J4_29 : z_LSU "java/lang/StringBuilder" 29 mJ5_append_cf1ce := ⟨lw_good_at (i := 1025) (by decide +kernel) rfl, lw_good_at (i := 1017) (by decide +kernel) rfl, lw_good_at (i := 1026) (by decide +kernel) rfl, lw_good_at (i := 1016) (by decide +kernel) rfl, by decide⟩
theorem sl_J4_50 : z_LSU "java/lang/StringBuilder" 50 mJ5_append_3fe6f := ⟨lw_good_at (i := 1157) (by decide +kernel) rfl, lw_good_at (i := 1281) (by decide +kernel) rfl, lw_good_at (i := 1026) (by decide +kernel) rfl, lw_good_at (i := 1158) (by decide +kernel) rfl, by decide⟩
theorem sl_J4_53 : z_LSU "java/lang/StringBuilder" 53 mJ5_append_c97b9 := ⟨lw_good_at (i := 1130) (by decide +kernel) rfl, lw_good_at (i := 1280) (by decide +kernel) rfl, lw_good_at (i := 1026) (by decide +kernel) rfl, lw_good_at (i := 1131) (by decide +kernel) rfl, by decide⟩
theorem sl_J4_343 : z_LSU "java/lang/StringBuilder" 343 mJ5_length_8abf5 := ⟨lw_good_at (i := 1191) (by decide +kernel) rfl, lw_good_at (i := 1187) (by decide +kernel) rfl, lw_good_at (i := 1026) (by decide +kernel) rfl, lw_good_at (i := 1186) (by decide +kernel) rfl, by decide⟩
theorem lc_J7_310 : z_LCl "java/util/Arrays" 310 := ⟨lw_good_at (i := 1051) (by decide +kernel) rfl, lw_good_at (i := 1052) (by decide +kernel) rfl, lw_good_at (i := 1053) (by decide +kernel) rfl, lw_good_at (i := 1054) (by decide +kernel) rfl, lw_good_at (i := 1055) (by decide +kernel) rfl, lw_nest_at (i := 1056) (by decide +kernel) rfl⟩
theorem uI_I {a k b j : Nat} {v : Int32} : z_I (z_uI h a k v) b j = if b = a ∧ j = k then v else z_I h b j := rfl
theorem uR_R {a k b j : Nat} {v : Option Nat} : z_R (z_uR h a k v) b j = if b = a ∧ j = k then v else z_R h b j := rfl
theorem isA_new {a t n t2 n2 : Nat} (ha : z_isA h a t n) : z_isA (hnew h t2 n2) a t n := ⟨ha.1, Nat.lt_succ_of_lt ha.2.1, by rw [hnew_T, if_neg (Nat.ne_of_lt ha.2.1)]; exact ha.2.2⟩
theorem hnew_Ib {t n b : Nat} (hb : b < z_z h) : z_I (hnew h t n) b = z_I h b := funext fun j => by rw [hnew_I, if_neg (Nat.ne_of_lt hb)]
theorem fMax_nI {a b : Nat} (ha : a < 2 ^ 31) (hb : b < 2 ^ 31) : fMax (nI a) (nI b) = nI (max a b) := by
  unfold fMax
  by_cases h1 : a < b
  · rw [if_pos (nI_lt h1 hb), Nat.max_eq_right (by omega)]
  · rw [if_neg (nI_nlt (by omega) ha), Nat.max_eq_left (by omega)]
theorem fMin_nI {a b : Nat} (ha : a < 2 ^ 31) (hb : b < 2 ^ 31) : fMin (nI a) (nI b) = nI (min a b) := by
  unfold fMin
  by_cases h1 : b < a
  · rw [if_pos (nI_lt h1 ha), Nat.min_eq_right (by omega)]
  · rw [if_neg (nI_nlt (by omega) hb), Nat.min_eq_left (by omega)]
/-- x is a StringBuilder of the letters l, y its row of n bytes -/
def sBx (h : zH) (x y : Nat) (l : List Nat) (n : Nat) : Prop := (∀ c ∈ l, c < 128) ∧ (l.length ≤ n ∧ n ≤ 600) ∧ (811 ≤ x ∧ 811 ≤ y ∧ x ≠ y) ∧ z_isA h x 11 4 ∧ z_R h x 0 = some y ∧ z_I h x 1 = 0 ∧ z_I h x 3 = nI l.length ∧ z_isA h y 29 n ∧ (∀ j, j < n → ∃ c, c < 128 ∧ z_I h y j = nI c) ∧ ∀ j, j < l.length → z_I h y j = nI (l.getD j 0)
/-- what stays when x and its row y are written: at most c cells more, the row is y' then -/
def hkp (h h' : zH) (x y y' c : Nat) : Prop := z_z h ≤ z_z h' ∧ z_z h' ≤ z_z h + c ∧ (y' = y ∨ z_z h ≤ y') ∧ ∀ a, a < z_z h → z_T h' a = z_T h a ∧ (a ≠ x → a ≠ y → ∀ k, z_R h' a k = z_R h a k ∧ z_L h' a k = z_L h a k ∧ z_I h' a k = z_I h a k)
theorem hkp_trans {h1 h2 h3 : zH} {x y1 y2 y3 c1 c2 : Nat} (a : hkp h1 h2 x y1 y2 c1) (b : hkp h2 h3 x y2 y3 c2) : hkp h1 h3 x y1 y3 (c1 + c2) := by
  obtain ⟨a1, a2, a3, a4⟩ := a
  obtain ⟨b1, b2, b3, b4⟩ := b
  refine ⟨by omega, by omega, by omega, fun q hq => ⟨((b4 q (by omega)).1).trans (a4 q hq).1, fun h1 h2 k => ?_⟩⟩
  obtain ⟨p1, p2, p3⟩ := (b4 q (by omega)).2 h1 (by omega) k
  obtain ⟨q1, q2, q3⟩ := (a4 q hq).2 h1 h2 k
  exact ⟨p1.trans q1, p2.trans q2, p3.trans q3⟩
theorem hkp_refl {x y : Nat} : hkp h h x y y 0 := ⟨Nat.le_refl _, Nat.le_refl _, Or.inl rfl, fun a _ => ⟨rfl, fun _ _ k => ⟨rfl, rfl, rfl⟩⟩⟩
theorem hkp_isA {h' : zH} {x y y' c a t n : Nat} (k : hkp h h' x y y' c) (ha : z_isA h a t n) : z_isA h' a t n := ⟨ha.1, Nat.lt_of_lt_of_le ha.2.1 k.1, ((k.2.2.2 a ha.2.1).1).trans ha.2.2⟩
/-- a text stays, if its row is not the builder's -/
theorem hkp_tS {h' : zH} {x y y' c s r : Nat} {l : List Nat} (k : hkp h h' x y y' c) (hx : z_isA h x 11 4) (t : tS h s r l) (hr : r ≠ y) (hy : ∃ n, z_isA h y 29 n) (hz : z_z h' < z_top) (hy2 : y' < z_z h') : tS h' s r l ∧ r ≠ y' := by
  obtain ⟨n, hy⟩ := hy
  obtain ⟨t1, t2, t3⟩ := t
  rcases t3 with ⟨i, hi, e1, e2, e3⟩ | ⟨s1, s2, s3, s4, s5⟩
  · exact ⟨⟨t1, t2, Or.inl ⟨i, hi, e1, e2, e3⟩⟩, by omega⟩
  · have n1 : s ≠ x := fun e => by subst e; have := s1.2.2.symm.trans hx.2.2; cases this
    have n2 : s ≠ y := fun e => by subst e; have := s1.2.2.symm.trans hy.2.2; cases this
    have n3 : r ≠ x := fun e => by subst e; have := s4.2.2.symm.trans hx.2.2; cases this
    have k2 := (k.2.2.2 s s1.2.1).2 n1 n2
    have k3 := (k.2.2.2 r s4.2.1).2 n3 hr
    refine ⟨⟨t1, t2, Or.inr ⟨hkp_isA k s1, ((k2 0).1).trans s2, ((k2 1).2.2).trans s3, hkp_isA k s4, fun j hj => ((k3 j).2.2).trans (s5 j hj)⟩⟩, ?_⟩
    have := k.2.2.1
    have := s4.2.1
    omega
theorem sB_fit {x y n : Nat} {l : List Nat} (s : sBx h x y l n) : ∀ j, j < n → fits .byte (.int (z_I h y j)) = true := fun j hj => by
  obtain ⟨c, hc, e⟩ := s.2.2.2.2.2.2.2.2.1 j hj
  rw [e]
  exact (c7_fit hc).1

theorem u_newLen {e a b c : Nat} (he : 1 ≤ e) (ha : a < 2 ^ 20) (hb : b < 2 ^ 20) (hc : c < 2 ^ 20) (h0 : 0 < b) (H : Q (some (.int (nI (a + max b c)))) h) : Ok g gr e mJ8_newLength_cabcc 0 0 [.int (nI a), .int (nI b), .int (nI c)] h Q := by
  refine Ok_of (ls := [.int (nI a), .int (nI b), .int (nI c), .retAddr 0]) (by decide) rfl (Nat.le_of_ble_eq_true rfl) rfl ?_
  refine r_iload_n 0 dJ8_newLength_cabcc_0 rfl rfl ?_
  refine r_iload_n 1 dJ8_newLength_cabcc_1 rfl rfl ?_
  refine r_iload_n 2 dJ8_newLength_cabcc_2 rfl rfl ?_
  refine r_max dJ8_newLength_cabcc_3 lm_J8_194 (by omega) (Nat.le_of_ble_eq_true rfl) ?_
  rw [fMax_nI (by omega) (by omega)]
  refine r_iadd dJ8_newLength_cabcc_6 ?_
  rw [nI_add]
  refine r_istore_n 3 dJ8_newLength_cabcc_7 rfl (Nat.le_of_ble_eq_true rfl) rfl ?_
  refine r_iconst (0) dJ8_newLength_cabcc_8 rfl ?_
  refine r_iload_n 3 dJ8_newLength_cabcc_9 rfl rfl ?_
  refine r_icmp_ge 21 dJ8_newLength_cabcc_10 rfl (fun q => absurd q (nI_nle (by omega) (by omega))) (fun _ => ?_)
  refine r_iload_n 3 dJ8_newLength_cabcc_13 rfl rfl ?_
  refine r_ldc dJ8_newLength_cabcc_14 kc_J8_200 ?_
  refine r_icmp_gt 21 dJ8_newLength_cabcc_16 rfl (fun q => absurd q (show ¬ nI 2147483639 < nI (a + max b c) from nI_nlt (by omega) (by decide))) (fun _ => ?_)
  refine r_iload_n 3 dJ8_newLength_cabcc_19 rfl rfl ?_
  exact r_iret dJ8_newLength_cabcc_20 rfl H

theorem u_newCap {e x y n q : Nat} {l : List Nat} (he : 2 ≤ e) (s : sBx h x y l n) (hq : n < q) (hq2 : q ≤ 300) (H : Q (some (.int (nI (n + max (q - n) (n + 2))))) h) : Ok g gr e mJ5_newCapacity_0f7a4 0 0 [.ref x, .int (nI q)] h Q := by
  obtain ⟨d, rfl⟩ := dn he
  have s2 := s.2.1
  refine Ok_of (ls := [.ref x, .int (nI q), .retAddr 0, .retAddr 0, .retAddr 0, .retAddr 0]) (by decide) rfl (Nat.le_of_ble_eq_true rfl) rfl ?_
  refine r_aload_n 0 dJ5_newCapacity_0f7a4_0 rfl rfl ?_
  refine r_getR dJ5_newCapacity_0f7a4_1 fl_J5_15_J4 s.2.2.2.1 s.2.2.2.2.1 ?_
  refine r_alenG dJ5_newCapacity_0f7a4_4 s.2.2.2.2.2.2.2.1 (by omega) ?_
  refine r_istore_n 2 dJ5_newCapacity_0f7a4_5 rfl (Nat.le_of_ble_eq_true rfl) rfl ?_
  refine r_iload_n 1 dJ5_newCapacity_0f7a4_6 rfl rfl ?_
  refine r_aload_n 0 dJ5_newCapacity_0f7a4_7 rfl rfl ?_
  refine r_getB dJ5_newCapacity_0f7a4_8 fl_J5_22_J4 s.2.2.2.1 ?_
  rw [s.2.2.2.2.2.1]
  refine r_ishl dJ5_newCapacity_0f7a4_11 ?_
  rw [sb_shl0]
  refine r_istore_n 3 dJ5_newCapacity_0f7a4_12 rfl (Nat.le_of_ble_eq_true rfl) rfl ?_
  refine r_iload_n 3 dJ5_newCapacity_0f7a4_13 rfl rfl ?_
  refine r_iload_n 2 dJ5_newCapacity_0f7a4_14 rfl rfl ?_
  refine r_isub dJ5_newCapacity_0f7a4_15 ?_
  rw [pk_sub (by omega)]
  refine r_istore dJ5_newCapacity_0f7a4_16 (Nat.le_of_ble_eq_true rfl) rfl ?_
  refine r_iload_n 2 dJ5_newCapacity_0f7a4_18 rfl rfl ?_
  refine r_iload dJ5_newCapacity_0f7a4_19 rfl ?_
  refine r_iload_n 2 dJ5_newCapacity_0f7a4_21 rfl rfl ?_
  refine r_iconst (2) dJ5_newCapacity_0f7a4_22 rfl ?_
  refine r_aload_n 0 dJ5_newCapacity_0f7a4_23 rfl rfl ?_
  refine r_getB dJ5_newCapacity_0f7a4_24 fl_J5_22_J4 s.2.2.2.1 ?_
  rw [s.2.2.2.2.2.1]
  refine r_ishl dJ5_newCapacity_0f7a4_27 ?_
  rw [sb_shl0]
  refine r_iadd dJ5_newCapacity_0f7a4_28 ?_
  rw [show nI n + 2 = nI (n + 2) from nI_add n 2]
  refine r_callS (C2 := 0) (S2 := 0) [.int (nI n), .int (nI (q - n)), .int (nI (n + 2))] [] 3 dJ5_newCapacity_0f7a4_29 lk_J5_114 md_J8_newLength_cabcc rfl rfl (Nat.le_of_ble_eq_true rfl) rfl rfl (u_newLen (by omega) (by omega) (by omega) (by omega) (by omega) ?_)
  refine r_istore dJ5_newCapacity_0f7a4_32 (Nat.le_of_ble_eq_true rfl) rfl ?_
  refine r_iload dJ5_newCapacity_0f7a4_34 rfl ?_
  refine r_ldc dJ5_newCapacity_0f7a4_36 kc_J5_39 ?_
  refine r_icmp_ne 51 dJ5_newCapacity_0f7a4_38 rfl (fun _ => ?_) (fun z => absurd ((nI_eq (by omega) (by decide)).mp (show nI (n + max (q - n) (n + 2)) = nI 2147483647 from z)) (by omega))
  refine r_iload dJ5_newCapacity_0f7a4_51 rfl ?_
  refine r_aload_n 0 dJ5_newCapacity_0f7a4_53 rfl rfl ?_
  refine r_getB dJ5_newCapacity_0f7a4_54 fl_J5_22_J4 s.2.2.2.1 ?_
  rw [s.2.2.2.2.2.1]
  refine r_ishr dJ5_newCapacity_0f7a4_57 ?_
  rw [sb_shr0]
  exact r_iret dJ5_newCapacity_0f7a4_58 rfl H

theorem u_copyOf {e b n q : Nat} (he : 1 ≤ e) (hb : z_isA h b 29 n) (hq : n < q) (hq2 : q ≤ 10000) (hf : ∀ j, j < n → fits .byte (.int (z_I h b j)) = true) (hz : 811 ≤ z_z h) (hz2 : z_z h + 1 < z_top) (H : Q (some (.ref (z_z h))) (hcp (hnew h 29 q) (z_z h) 0 n (fun j => z_I h b j))) : Ok g true e mJ7_copyOf_9075b (0 + 1) (0 + q) [.ref b, .int (nI q)] h Q := by
  obtain ⟨d, rfl⟩ := dn he
  refine Ok_of (ls := [.ref b, .int (nI q), .retAddr 0]) (by decide) rfl (Nat.le_of_ble_eq_true rfl) rfl ?_
  refine r_iload_n 1 dJ7_copyOf_9075b_0 rfl rfl ?_
  refine r_aload_n 0 dJ7_copyOf_9075b_1 rfl rfl ?_
  refine r_alenG dJ7_copyOf_9075b_2 hb (by omega) ?_
  refine r_icmp_ne 14 dJ7_copyOf_9075b_3 rfl (fun _ => ?_) (fun z => absurd ((nI_eq (by omega) (by omega)).mp z) (by omega))
  refine r_iload_n 1 dJ7_copyOf_9075b_14 rfl rfl ?_
  refine r_newarrG (t := 29) (N := q) dJ7_copyOf_9075b_15 rfl (Or.inr rfl) ac_byte (nI_pos (by omega)) (nI_clamp (by omega)) (by omega) hz hz2 ?_
  refine r_astore_n 2 dJ7_copyOf_9075b_17 rfl (Nat.le_of_ble_eq_true rfl) rfl ?_
  refine r_aload_n 0 dJ7_copyOf_9075b_18 rfl rfl ?_
  refine r_iconst (0) dJ7_copyOf_9075b_19 rfl ?_
  refine r_aload_n 2 dJ7_copyOf_9075b_20 rfl rfl ?_
  refine r_iconst (0) dJ7_copyOf_9075b_21 rfl ?_
  refine r_aload_n 0 dJ7_copyOf_9075b_22 rfl rfl ?_
  refine r_alenG dJ7_copyOf_9075b_23 (isA_new hb) (by omega) ?_
  refine r_iload_n 1 dJ7_copyOf_9075b_24 rfl rfl ?_
  refine r_min dJ7_copyOf_9075b_25 lm_J7_304 (by omega) (Nat.le_of_ble_eq_true rfl) ?_
  rw [fMin_nI (by omega) (by omega), Nat.min_eq_left (by omega)]
  refine r_copyB (sp := 0) (dp := 0) (N := n) (n1 := q) (f := z_I h b) dJ7_copyOf_9075b_28 lk_J7_150 (by have := zBS_row (g := g) (gr := true) (isA_new (t2 := 29) (n2 := q) hb); rwa [hnew_Ib hb.2.1] at this) (hnew_isA hz) (by omega) (by omega) (by omega) (by omega) hf (by omega) (Nat.le_of_ble_eq_true rfl) ?_
  simp only [Nat.zero_add]
  refine r_aload_n 2 dJ7_copyOf_9075b_31 rfl rfl ?_
  exact r_aretA dJ7_copyOf_9075b_32 rfl H

/-- the builder with a longer row -/
theorem sB_grow {x y n q : Nat} {l : List Nat} (s : sBx h x y l n) (hq : n < q) (hq2 : q ≤ 600) (hz : 811 ≤ z_z h) : sBx (z_uR (hcp (hnew h 29 q) (z_z h) 0 n (fun j => z_I h y j)) x 0 (some (z_z h))) x (z_z h) l q ∧ hkp h (z_uR (hcp (hnew h 29 q) (z_z h) 0 n (fun j => z_I h y j)) x 0 (some (z_z h))) x y (z_z h) 1 := by
  obtain ⟨s1, s2, s3, s4, s5, s6, s7, s8, s9, s10⟩ := s
  have hx := s4.2.1
  have hy := s8.2.1
  have eI : ∀ a k, a ≠ z_z h → z_I (z_uR (hcp (hnew h 29 q) (z_z h) 0 n (fun j => z_I h y j)) x 0 (some (z_z h))) a k = z_I h a k := fun a k ha => by
    show z_I (hcp (hnew h 29 q) (z_z h) 0 n (fun j => z_I h y j)) a k = _
    rw [hcp_I, if_neg (fun w => ha w.1), hnew_I, if_neg ha]
  have eN : ∀ k, z_I (z_uR (hcp (hnew h 29 q) (z_z h) 0 n (fun j => z_I h y j)) x 0 (some (z_z h))) (z_z h) k = if k < n then z_I h y k else 0 := fun k => by
    show z_I (hcp (hnew h 29 q) (z_z h) 0 n (fun j => z_I h y j)) (z_z h) k = _
    rw [hcp_I, hnew_I, if_pos rfl]
    by_cases hk : k < n
    · rw [if_pos ⟨rfl, Nat.zero_le _, by omega⟩, if_pos hk]; rfl
    · rw [if_neg (by omega), if_neg hk]
  refine ⟨⟨s1, ⟨by omega, hq2⟩, ⟨s3.1, hz, by omega⟩, isA_new s4, ?_, (eI _ _ (by omega)).trans s6, (eI _ _ (by omega)).trans s7, hnew_isA hz, fun j hj => ?_, fun j hj => ?_⟩, ⟨Nat.le_succ _, Nat.le_refl _, Or.inr (Nat.le_refl _), fun a ha => ⟨if_neg (by omega), fun h1 h2 k => ⟨?_, if_neg (by omega), eI _ _ (by omega)⟩⟩⟩⟩
  · rw [uR_R, if_pos ⟨rfl, rfl⟩]
  · rw [eN]
    by_cases hk : j < n
    · rw [if_pos hk]; exact s9 j hk
    · rw [if_neg hk]; exact ⟨0, by decide, rfl⟩
  · rw [eN, if_pos (by omega)]; exact s10 j hj
  · rw [uR_R, if_neg (fun w => h1 w.1)]
    exact if_neg (by omega)

theorem u_ensure {e x y n q : Nat} {l : List Nat} (he : 3 ≤ e) (s : sBx h x y l n) (hq : q ≤ 300) (hz : 811 ≤ z_z h) (hz2 : z_z h + 1 < z_top) (H : ∀ h2 y2 n2, sBx h2 x y2 l n2 → q ≤ n2 → hkp h h2 x y y2 1 → Q none h2) : Ok g true e mJ5_ensureCapacityInternal_d00df 1 600 [.ref x, .int (nI q)] h Q := by
  obtain ⟨d, rfl⟩ := dn he
  have s2 := s.2.1
  refine Ok_of (ls := [.ref x, .int (nI q), .retAddr 0]) (by decide) rfl (Nat.le_of_ble_eq_true rfl) rfl ?_
  refine r_aload_n 0 dJ5_ensureCapacityInternal_d00df_0 rfl rfl ?_
  refine r_getR dJ5_ensureCapacityInternal_d00df_1 fl_J5_15_J4 s.2.2.2.1 s.2.2.2.2.1 ?_
  refine r_alenG dJ5_ensureCapacityInternal_d00df_4 s.2.2.2.2.2.2.2.1 (by omega) ?_
  refine r_aload_n 0 dJ5_ensureCapacityInternal_d00df_5 rfl rfl ?_
  refine r_getB dJ5_ensureCapacityInternal_d00df_6 fl_J5_22_J4 s.2.2.2.1 ?_
  rw [s.2.2.2.2.2.1]
  refine r_ishr dJ5_ensureCapacityInternal_d00df_9 ?_
  rw [sb_shr0]
  refine r_istore_n 2 dJ5_ensureCapacityInternal_d00df_10 rfl (Nat.le_of_ble_eq_true rfl) rfl ?_
  refine r_iload_n 1 dJ5_ensureCapacityInternal_d00df_11 rfl rfl ?_
  refine r_iload_n 2 dJ5_ensureCapacityInternal_d00df_12 rfl rfl ?_
  by_cases hqn : q ≤ n
  · refine r_isub dJ5_ensureCapacityInternal_d00df_13 ?_
    refine r_if_le 38 dJ5_ensureCapacityInternal_d00df_14 rfl (fun _ => ?_) (fun z => absurd (by rw [Int32.le_iff_toInt_le, pk_sub_toInt (by omega) (by omega), Int32.toInt_zero]; omega) z)
    exact WP_mono (Nat.zero_le _) (Nat.zero_le _) (r_vret dJ5_ensureCapacityInternal_d00df_38 rfl (H h y n s hqn ⟨Nat.le_refl _, Nat.le_succ _, Or.inl rfl, fun a _ => ⟨rfl, fun _ _ k => ⟨rfl, rfl, rfl⟩⟩⟩))
  refine r_isub dJ5_ensureCapacityInternal_d00df_13 ?_
  rw [pk_sub (by omega)]
  refine r_if_le 38 dJ5_ensureCapacityInternal_d00df_14 rfl (fun z => absurd z (nI_nle (by omega) (by omega))) (fun _ => ?_)
  refine r_aload_n 0 dJ5_ensureCapacityInternal_d00df_17 rfl rfl ?_
  refine r_aload_n 0 dJ5_ensureCapacityInternal_d00df_18 rfl rfl ?_
  refine r_getR dJ5_ensureCapacityInternal_d00df_19 fl_J5_15_J4 s.2.2.2.1 s.2.2.2.2.1 ?_
  refine r_aload_n 0 dJ5_ensureCapacityInternal_d00df_22 rfl rfl ?_
  refine r_iload_n 1 dJ5_ensureCapacityInternal_d00df_23 rfl rfl ?_
  refine r_callP (C1 := 0) (S1 := 0) (C2 := 1) (S2 := 600) [.int (nI q)] [.ref y, .ref x] 1 dJ5_ensureCapacityInternal_d00df_24 lp_J5_104 md_J5_newCapacity_0f7a4 (ci := 11) rfl (by decide) s.2.2.2.1 rfl rfl (Nat.le_of_ble_eq_true rfl) rfl rfl (u_newCap (by omega) s (by omega) hq ?_)
  refine r_aload_n 0 dJ5_ensureCapacityInternal_d00df_27 rfl rfl ?_
  refine r_getB dJ5_ensureCapacityInternal_d00df_28 fl_J5_22_J4 s.2.2.2.1 ?_
  rw [s.2.2.2.2.2.1]
  refine r_ishl dJ5_ensureCapacityInternal_d00df_31 ?_
  rw [sb_shl0]
  refine r_callS (C1 := 0 + 1) (S1 := 0 + (n + max (q - n) (n + 2))) (C2 := 0) (S2 := 600 - (n + max (q - n) (n + 2))) [.ref y, .int (nI (n + max (q - n) (n + 2)))] [.ref x] 2 dJ5_ensureCapacityInternal_d00df_32 lk_J5_108 md_J7_copyOf_9075b rfl rfl (Nat.le_of_ble_eq_true rfl) rfl (by omega) (u_copyOf (by omega) s.2.2.2.2.2.2.2.1 (by omega) (by omega) (sB_fit s) hz hz2 ?_)
  obtain ⟨g1, g2⟩ := sB_grow s (q := n + max (q - n) (n + 2)) (by omega) (by omega) hz
  refine r_putR dJ5_ensureCapacityInternal_d00df_35 fp_J5_15_J4 (fun z => nomatch z) (isA_new s.2.2.2.1) ?_
  exact r_vret dJ5_ensureCapacityInternal_d00df_38 rfl (H _ _ _ g1 (by omega) g2)

end ZSb
