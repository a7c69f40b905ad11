/-! questions: symmetries -/
theorem b_X9_symmetries_0 {g : zG} {gr : Bool} {d : Nat} {Q : Option Value → zH → Prop} {m : zm} {l1 : Int32} {l2 : Int32} (H : ((l1 < 0 → (Q (some (.int (-1 : Int32))) (mk (wI m 1 13 (1 : Int32))))) ∧ (¬ l1 < 0 → (((3 : Int32) ≤ l1 → (Q (some (.int (-1 : Int32))) (mk (wI m 1 13 (1 : Int32))))) ∧ (¬ (3 : Int32) ≤ l1 → (vp_in l1 3 ∧ (((l2 < 0 → (Q (some (.int (-1 : Int32))) (mk (wI m 1 13 (1 : Int32))))) ∧ (¬ l2 < 0 → ((l2 ≤ (2 : Int32) → (Ok g gr (d + 12) mX3_match 0 0 [.ref 157, .ref (272 + 140 * l1.toNatClampNeg), .ref (272 + 140 * l1.toNatClampNeg), .int (0 : Int32)] (mk m) (fun r h2 => WP g gr (d + 13) mX9_symmetries 0 0 35 [.ref 1, .retAddr 0, .int l2, .retAddr 0] (r.toList ++ []) h2 Q))) ∧ (¬ l2 ≤ (2 : Int32) → (Q (some (.int (-1 : Int32))) (mk (wI m 1 13 (1 : Int32))))))))))))))) : Ok g gr (d + 13) mX9_symmetries 0 0 [.ref 1, .int l1, .int l2] (mk m) Q :=
  Ok_of (ls := [.ref 1, .int l1, .int l2, .retAddr 0]) (by decide) rfl (Nat.le_of_ble_eq_true rfl) rfl (r_aload_n 0 dX9_symmetries_0 rfl rfl (r_iload_n 1 dX9_symmetries_1 rfl rfl (r_callV (C2 := 0) (S2 := 0) [.int l1] [] 1 dX9_symmetries_2 lk_X9_94 md_X9_at (ci := 8) rfl rfl (by decide) (zA a_1) rfl rfl (Nat.le_of_ble_eq_true rfl) rfl rfl (b_X9_at_0  ⟨fun q2555 => (r_astoreN_n 3 dX9_symmetries_5 rfl (Nat.le_of_ble_eq_true rfl) rfl (r_aloadN_n 3 dX9_symmetries_6 rfl rfl (r_ifnullN 19 dX9_symmetries_7 rfl (r_aload_n 0 dX9_symmetries_19 rfl rfl (r_iconst (1) dX9_symmetries_20 rfl (r_callV (C2 := 0) (S2 := 0) [.int (1 : Int32)] [] 1 dX9_symmetries_21 lk_X9_98 md_X9_refused (ci := 8) rfl rfl (by decide) (zA a_1) rfl rfl (Nat.le_of_ble_eq_true rfl) rfl rfl (b_X9_refused_0  (r_iret dX9_symmetries_24 rfl (H.1 q2555))))))))), fun q2556 => ⟨fun q2557 => (r_astoreN_n 3 dX9_symmetries_5 rfl (Nat.le_of_ble_eq_true rfl) rfl (r_aloadN_n 3 dX9_symmetries_6 rfl rfl (r_ifnullN 19 dX9_symmetries_7 rfl (r_aload_n 0 dX9_symmetries_19 rfl rfl (r_iconst (1) dX9_symmetries_20 rfl (r_callV (C2 := 0) (S2 := 0) [.int (1 : Int32)] [] 1 dX9_symmetries_21 lk_X9_98 md_X9_refused (ci := 8) rfl rfl (by decide) (zA a_1) rfl rfl (Nat.le_of_ble_eq_true rfl) rfl rfl (b_X9_refused_0  (r_iret dX9_symmetries_24 rfl ((H.2 q2556).1 q2557))))))))), fun q2558 => (have e2559 := ((H.2 q2556).2 q2558).1; ⟨e2559, (r_astore_n 3 dX9_symmetries_5 rfl (Nat.le_of_ble_eq_true rfl) rfl (r_aload_n 3 dX9_symmetries_6 rfl rfl (r_ifnullR dX9_symmetries_7 (r_iload_n 2 dX9_symmetries_10 rfl rfl (r_if_lt 19 dX9_symmetries_11 rfl (fun q2560 => (r_aload_n 0 dX9_symmetries_19 rfl rfl (r_iconst (1) dX9_symmetries_20 rfl (r_callV (C2 := 0) (S2 := 0) [.int (1 : Int32)] [] 1 dX9_symmetries_21 lk_X9_98 md_X9_refused (ci := 8) rfl rfl (by decide) (zA a_1) rfl rfl (Nat.le_of_ble_eq_true rfl) rfl rfl (b_X9_refused_0  (r_iret dX9_symmetries_24 rfl (((H.2 q2556).2 q2558).2.1 q2560))))))) (fun q2561 => (r_iload_n 2 dX9_symmetries_14 rfl rfl (r_iconst (2) dX9_symmetries_15 rfl (r_icmp_le 25 dX9_symmetries_16 rfl (fun q2562 => (r_aload_n 0 dX9_symmetries_25 rfl rfl (q_getR dX9_symmetries_26 fl_X9_61_X9 a_1 r_1_9 (r_aload_n 3 dX9_symmetries_29 rfl rfl (r_aload_n 3 dX9_symmetries_30 rfl rfl (r_iconst (0) dX9_symmetries_31 rfl (r_forget [true, false, true, false] rfl (r_callV (C2 := 0) (S2 := 0) [.ref (272 + 140 * l1.toNatClampNeg), .ref (272 + 140 * l1.toNatClampNeg), .int (0 : Int32)] [] 3 dX9_symmetries_32 lk_X9_245 md_X3_match (ci := 3) rfl rfl (by decide) (zA a_157) rfl rfl (Nat.le_of_ble_eq_true rfl) rfl rfl ((((H.2 q2556).2 q2558).2.2 q2561).1 q2562))))))))) (fun q2563 => (r_aload_n 0 dX9_symmetries_19 rfl rfl (r_iconst (1) dX9_symmetries_20 rfl (r_callV (C2 := 0) (S2 := 0) [.int (1 : Int32)] [] 1 dX9_symmetries_21 lk_X9_98 md_X9_refused (ci := 8) rfl rfl (by decide) (zA a_1) rfl rfl (Nat.le_of_ble_eq_true rfl) rfl rfl (b_X9_refused_0  (r_iret dX9_symmetries_24 rfl ((((H.2 q2556).2 q2558).2.2 q2561).2 q2563))))))))))))))))⟩)⟩⟩))))
theorem b_X9_symmetries_35 {g : zG} {gr : Bool} {d : Nat} {Q : Option Value → zH → Prop} {m : zm} {l2 : Int32} (H : ((l2 = 0 → (Q (some (.int (m.1 157 0))) (mk (wI m 1 13 (0 : Int32))))) ∧ (l2 = 1 → (Ok g gr (d + 12) mX3_orbits 0 0 [.ref 157] (mk m) (fun r h2 => WP g gr (d + 13) mX9_symmetries 0 0 84 [.retAddr 0, .retAddr 0, .retAddr 0, .retAddr 0] (r.toList ++ [.ref 1]) h2 Q))) ∧ (¬ l2 = 0 ∧ ¬ l2 = 1 → (Ok g gr (d + 12) mX3_unmoved 0 0 [.ref 157] (mk m) (fun r h2 => WP g gr (d + 13) mX9_symmetries 0 0 96 [.retAddr 0, .retAddr 0, .retAddr 0, .retAddr 0] (r.toList ++ [.ref 1]) h2 Q))))) : WP g gr (d + 13) mX9_symmetries 0 0 35 [.ref 1, .retAddr 0, .int l2, .retAddr 0] [] (mk m) Q :=
  (r_iload_n 2 dX9_symmetries_35 rfl rfl ((dite (l2 = 0) (fun q2564 => r_lookup 64 dX9_symmetries_36 (by decide) (by rw [q2564]) rfl (r_aload_n 0 dX9_symmetries_64 rfl rfl (r_aload_n 0 dX9_symmetries_65 rfl rfl (q_getR dX9_symmetries_66 fl_X9_61_X9 a_1 r_1_9 (q_getI dX9_symmetries_69 fl_X9_249_X3 (Or.inl rfl) a_157 (r_callV (C2 := 0) (S2 := 0) [.int (m.1 157 0)] [] 1 dX9_symmetries_72 lk_X9_122 md_X9_answered (ci := 8) rfl rfl (by decide) (zA a_1) rfl rfl (Nat.le_of_ble_eq_true rfl) rfl rfl (b_X9_answered_0  (r_iret dX9_symmetries_75 rfl (H.1 q2564))))))))) (fun n0_ => (dite (l2 = 1) (fun q2565 => r_lookup 76 dX9_symmetries_36 (by decide) (by rw [q2565]) rfl (r_aload_n 0 dX9_symmetries_76 rfl rfl (r_aload_n 0 dX9_symmetries_77 rfl rfl (q_getR dX9_symmetries_78 fl_X9_61_X9 a_1 r_1_9 (r_forget [false, true, false, true] rfl (r_callV (C2 := 0) (S2 := 0) [] [.ref 1] 0 dX9_symmetries_81 lk_X9_252 md_X3_orbits (ci := 3) rfl rfl (by decide) (zA a_157) rfl rfl (Nat.le_of_ble_eq_true rfl) rfl rfl (H.2.1 q2565))))))) (fun n1_ => (r_lookup 88 dX9_symmetries_36 (by decide) (by exact ((lv_osw n0_ rfl).trans ((lv_osw n1_ rfl).trans rfl))) rfl (r_aload_n 0 dX9_symmetries_88 rfl rfl (r_aload_n 0 dX9_symmetries_89 rfl rfl (q_getR dX9_symmetries_90 fl_X9_61_X9 a_1 r_1_9 (r_forget [false, true, false, true] rfl (r_callV (C2 := 0) (S2 := 0) [] [.ref 1] 0 dX9_symmetries_93 lk_X9_255 md_X3_unmoved (ci := 3) rfl rfl (by decide) (zA a_157) rfl rfl (Nat.le_of_ble_eq_true rfl) rfl rfl (H.2.2 ⟨n0_, n1_⟩)))))))))))))
theorem b_X9_symmetries_84 {g : zG} {gr : Bool} {d : Nat} {Q : Option Value → zH → Prop} {m : zm} {s0 : Int32} (H : Q (some (.int s0)) (mk (wI m 1 13 (0 : Int32)))) : WP g gr (d + 13) mX9_symmetries 0 0 84 [.retAddr 0, .retAddr 0, .retAddr 0, .retAddr 0] [.int s0, .ref 1] (mk m) Q :=
  (r_callV (C2 := 0) (S2 := 0) [.int s0] [] 1 dX9_symmetries_84 lk_X9_122 md_X9_answered (ci := 8) rfl rfl (by decide) (zA a_1) rfl rfl (Nat.le_of_ble_eq_true rfl) rfl rfl (b_X9_answered_0  (r_iret dX9_symmetries_87 rfl H)))
theorem b_X9_symmetries_96 {g : zG} {gr : Bool} {d : Nat} {Q : Option Value → zH → Prop} {m : zm} {s0 : Int32} (H : Q (some (.int s0)) (mk (wI m 1 13 (0 : Int32)))) : WP g gr (d + 13) mX9_symmetries 0 0 96 [.retAddr 0, .retAddr 0, .retAddr 0, .retAddr 0] [.int s0, .ref 1] (mk m) Q :=
  (r_callV (C2 := 0) (S2 := 0) [.int s0] [] 1 dX9_symmetries_96 lk_X9_122 md_X9_answered (ci := 8) rfl rfl (by decide) (zA a_1) rfl rfl (Nat.le_of_ble_eq_true rfl) rfl rfl (b_X9_answered_0  (r_iret dX9_symmetries_99 rfl H)))
theorem d_symEnd {g : zG} {gr : Bool} {d : Nat} {Q : Option Value → zH → Prop} {m : zm} {n : Nat} {L : List (Nat → Nat)} {l2 : Int32} (hn : n ≤ 7) (h0 : m.1 810 21 = nI n) (hp : ∀ v, v < n → m.1 838 v = nI (rch L v)) (hb : ∀ p ∈ L, ∀ v, v < n → p v < 7) (K : (¬ l2 = 1 → Q (some (.int (nI (stls n L)))) (mk m)) ∧ (l2 = 1 → Q (some (.int (nI (orbs n L)))) (mk m))) : WP g gr (d + 12) mX10_symmetries 0 0 59 [.ref 810, .retAddr 0, .int l2, .int 0, .int 0, .int 0] [] (mk m) Q := by
  refine up_to (n := n) (P := fun v => WP g gr (d + 12) mX10_symmetries 0 0 59 [.ref 810, .retAddr 0, .int l2, .int (nI (fb_ct (fun v => rch L v % 2 ^ v == 0) v)), .int (nI (fb_ct (fun v => rch L v == 2 ^ v) v)), .int (nI v)] [] (mk m) Q) ?_ (fun v hv ih => ?_) 0 (Nat.zero_le _)
  · exact b_X10_symmetries_59 (pk_le n n (fun _ => K) (fun z => absurd z (Nat.lt_irrefl _)) h0)
  · refine b_X10_symmetries_59 (pk_le n v (fun z => by omega) (fun _ => ⟨pk_in v 7 (by omega), ?_⟩) h0)
    have hr := rch_lt (L := L) (v := v) (fun p hp2 => hb p hp2 v hv)
    have hpv : 1 ≤ 2 ^ v := Nat.two_pow_pos v
    have hpv2 := p2_7 (show v < 7 by omega)
    have hmd : rch L v % 2 ^ v ≤ rch L v := Nat.mod_le _ _
    rw [nI_clamp (show v < 2 ^ 31 by omega), hp v hv, i_sh1 (by omega), show (1 : Int32) = nI 1 from rfl, pk_sub hpv, fa_mask, show (0 : Int32) = nI 0 from rfl, nI_eq (by omega) (by decide), nI_eq (by omega) (by omega), nI_add, nI_add, nI_add, nI_add, nI_add]
    have es : fb_ct (fun v => rch L v % 2 ^ v == 0) (v + 1) = fb_ct (fun v => rch L v % 2 ^ v == 0) v + (if (rch L v % 2 ^ v == 0) = true then 1 else 0) := fb_ct_succ _ _
    have et : fb_ct (fun v => rch L v == 2 ^ v) (v + 1) = fb_ct (fun v => rch L v == 2 ^ v) v + (if (rch L v == 2 ^ v) = true then 1 else 0) := fb_ct_succ _ _
    rw [es, et] at ih
    refine ⟨fun z => ⟨fun y => ?_, fun y => ?_⟩, fun z => ⟨fun y => ?_, fun y => ?_⟩⟩
    · rw [bq_f z, bq_f y] at ih; exact ih
    · rw [bq_f z, bq_t y] at ih; exact ih
    · rw [bq_t z, bq_f y] at ih; exact ih
    · rw [bq_t z, bq_t y] at ih; exact ih
section ZAc
theorem x_symmetries {s : Sg} (hs : sOK s) (l1 l2 : Int32) : BX s mX9_symmetries mX10_symmetries [.int l1, .int l2] := by
  rcases i_case l1 3 (by decide) with h | ⟨w, hw, rfl⟩
  · refine ⟨qs s 1, -1, sOK_qs hs 1, fun g gr e m Q he hc K => ?_, fun g gr e m Q he hm K => ?_⟩
    · obtain ⟨d, rfl⟩ := dn (show 13 ≤ e by omega)
      exact b_X9_symmetries_0 (rg_n h (K _ (CR_t hc) fC_t))
    · obtain ⟨d, rfl⟩ := dn (show 12 ≤ e by omega)
      refine b_X10_symmetries_0 ?_
      rintro m1 rfl
      exact ite_n (isG_n h) (m_no hm K)
  · have hG := hs.1 w hw
    have h7 := hG.2.1.2
    rcases i_case l2 3 (by decide) with h2 | ⟨k, hk, rfl⟩
    · refine ⟨qs s 1, -1, sOK_qs hs 1, fun g gr e m Q he hc K => ?_, fun g gr e m Q he hm K => ?_⟩
      · obtain ⟨d, rfl⟩ := dn (show 13 ≤ e by omega)
        exact b_X9_symmetries_0 (rg_y hw ⟨pk_in w 3 hw, rh_n (n := 2) h2 (K _ (CR_t hc) fC_t)⟩)
      · obtain ⟨d, rfl⟩ := dn (show 12 ≤ e by omega)
        refine b_X10_symmetries_0 ?_
        rintro m1 rfl
        exact ite_y (isG_y hw) (ite_n (in_n (n := 2) (by decide) h2) (m_no hm K))
    · have hb7 := mps_lt (G := (y_W s w)) (H := (y_W s w)) (stay := 0) h7
      have cls : ∀ (g : zG) (gr : Bool) (d : Nat) (m : zm) (Q : Option Value → zH → Prop), CR s m → (∀ m', CR s m' → fC m m' → pPR m' (gn (y_W s w)) (mps (y_W s w) (y_W s w) 0) → m'.1 160 0 = nI (gn (y_W s w)) → WP g gr (d + 13) mX9_symmetries 0 0 35 [.ref 1, .retAddr 0, .int (nI k), .retAddr 0] [] (mk m') Q) → Ok g gr (d + 13) mX9_symmetries 0 0 [.ref 1, .int (nI w), .int (nI k)] (mk m) Q := by
        intro g gr d m Q hc HH
        refine b_X9_symmetries_0 (rg_y hw ⟨pk_in w 3 hw, rh_y (n := 2) hk ?_⟩)
        rw [cw (by omega)]
        exact k_match (s272 hw) (s272 hw) (by omega) hG hG (stay := 0) (by decide) (hc.1.1 w hw) (hc.1.1 w hw) (by omega) (by omega) (fun m' a1 a2 a3 => HH m' (CR_fz hc a3 (by omega)) (fC_fz a3 (by omega)) a1 a2)
      have mdl : ∀ (g : zG) (gr : Bool) (d : Nat) (m : zm) (Q : Option Value → zH → Prop), MR s m → (∀ m', MR (qs s 0) m' → fX m m' → pMP m' (gn (y_W s w)) 0 (mps (y_W s w) (y_W s w) 0) → m'.1 810 21 = nI (gn (y_W s w)) → WP g gr (d + 12) mX10_symmetries 0 0 42 [.ref 810, .retAddr 0, .int (nI k), .retAddr 0, .retAddr 0, .retAddr 0] [] (mk m') Q) → Ok g gr (d + 12) mX10_symmetries 0 0 [.ref 810, .int (nI w), .int (nI k)] (mk m) Q := by
        intro g gr d m Q hm HH
        have hb := MR_b hm
        refine b_X10_symmetries_0 ?_
        rintro m1 rfl
        refine ite_y (isG_y hw) (ite_y (in_y (n := 2) (by omega) (by decide)) ⟨MR_1 hb, ?_⟩)
        exact d_laysMaps (stay := 0) (by omega) hG hG hw hw (by decide) (hb.1 w hw) (hb.1 w hw) (fun m' a1 a2 a3 => HH m' (MR_fM hb a3) (fX_trans fX_b (fX_fM a3)) a1 a2)
      rcases (show k = 0 ∨ k = 1 ∨ k = 2 by omega) with rfl | rfl | rfl
      · refine ⟨qs s 0, nI (mps (y_W s w) (y_W s w) 0).length, sOK_qs hs 0, fun g gr e m Q he hc K => ?_, fun g gr e m Q he hm K => ?_⟩
        · obtain ⟨d, rfl⟩ := dn (show 13 ≤ e by omega)
          refine cls g gr d m Q hc (fun m' a1 a2 a3 a4 => b_X9_symmetries_35 ⟨fun _ => ?_, fun z => absurd z (by decide), fun z => absurd rfl z.1⟩)
          rw [a3.1]
          exact K _ (CR_t a1) (fC_trans a2 fC_t)
        · obtain ⟨d, rfl⟩ := dn (show 12 ≤ e by omega)
          refine mdl g gr d m Q hm (fun m' a1 a2 a3 a4 => b_X10_symmetries_42 ⟨fun z => absurd rfl z, fun _ => ?_⟩)
          rw [a3.1]
          exact K _ a1 a2
      · refine ⟨qs s 0, nI (orbs (gn (y_W s w)) (mps (y_W s w) (y_W s w) 0)), sOK_qs hs 0, fun g gr e m Q he hc K => ?_, fun g gr e m Q he hm K => ?_⟩
        · obtain ⟨d, rfl⟩ := dn (show 13 ≤ e by omega)
          refine cls g gr d m Q hc (fun m' a1 a2 a3 a4 => b_X9_symmetries_35 ⟨fun z => absurd z (by decide), fun _ => ?_, fun z => absurd rfl z.2⟩)
          refine k_orbits h7 a4 a3 hb7 (b_X9_symmetries_84 ?_)
          exact K _ (CR_t a1) (fC_trans a2 fC_t)
        · obtain ⟨d, rfl⟩ := dn (show 12 ≤ e by omega)
          refine mdl g gr d m Q hm (fun m' a1 a2 a3 a4 => b_X10_symmetries_42 ⟨fun _ => ?_, fun z => absurd z (by decide)⟩)
          exact d_symEnd h7 a4 a3.2.2.2.1 hb7 ⟨fun z => absurd rfl z, fun _ => K _ a1 a2⟩
      · refine ⟨qs s 0, nI (stls (gn (y_W s w)) (mps (y_W s w) (y_W s w) 0)), sOK_qs hs 0, fun g gr e m Q he hc K => ?_, fun g gr e m Q he hm K => ?_⟩
        · obtain ⟨d, rfl⟩ := dn (show 13 ≤ e by omega)
          refine cls g gr d m Q hc (fun m' a1 a2 a3 a4 => b_X9_symmetries_35 ⟨fun z => absurd z (by decide), fun z => absurd z (by decide), fun _ => ?_⟩)
          refine k_unmoved h7 a4 a3 hb7 (b_X9_symmetries_96 ?_)
          exact K _ (CR_t a1) (fC_trans a2 fC_t)
        · obtain ⟨d, rfl⟩ := dn (show 12 ≤ e by omega)
          refine mdl g gr d m Q hm (fun m' a1 a2 a3 a4 => b_X10_symmetries_42 ⟨fun _ => ?_, fun z => absurd z (by decide)⟩)
          exact d_symEnd h7 a4 a3.2.2.2.1 hb7 ⟨fun _ => K _ a1 a2, fun z => absurd z (by decide)⟩
end ZAc
