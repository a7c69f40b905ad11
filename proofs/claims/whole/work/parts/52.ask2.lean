/-! questions on cells -/
section ZAs
theorem tgv_tgm {c : Nat → Nat} {n q : Nat} (h : tg c n q ≠ 0) : bm (fun v => c v == tg c n q - 1) n = tgm c n q := by
  unfold tgm
  rw [if_neg h]
  exact bm_cong fun v _ => by
    rw [Bool.eq_iff_iff, beq_iff_eq, beq_iff_eq]
    omega
theorem x_start {s : Sg} (hs : sOK s) (l1 l2 : Int32) : BX s mX9_start mX10_start [.int l1, .int l2] := by
  rcases i_case l1 3 (by decide) with h | ⟨w, hw, rfl⟩
  · refine ⟨qs s 1, -1, sOK_qs hs 1, fun g gr e m Q he hc K => ?_, fun g gr e m Q he hm K => ?_⟩
    · obtain ⟨d, rfl⟩ := dn (show 4 ≤ e by omega)
      exact b_X9_start_0 (rg_n h (K _ (CR_t hc) fC_t))
    · obtain ⟨d, rfl⟩ := dn (show 4 ≤ e by omega)
      refine b_X10_start_0 ?_
      rintro m1 rfl
      exact ite_n (isG_n h) (m_no hm K)
  · have hG := hs.1 w hw
    have h7 := hG.2.1.2
    rcases i_case l2 4 (by decide) with h2 | ⟨k, hk, rfl⟩
    · refine ⟨qs s 1, -1, sOK_qs hs 1, fun g gr e m Q he hc K => ?_, fun g gr e m Q he hm K => ?_⟩
      · obtain ⟨d, rfl⟩ := dn (show 4 ≤ e by omega)
        exact b_X9_start_0 (rg_y hw ⟨pk_in w 3 hw, rh_n (n := 3) h2 (K _ (CR_t hc) fC_t)⟩)
      · obtain ⟨d, rfl⟩ := dn (show 4 ≤ e by omega)
        refine b_X10_start_0 ?_
        rintro m1 rfl
        exact ite_y (isG_y hw) (ite_n (in_n (n := 3) (by decide) h2) (m_no hm K))
    · have hst := st_cwf hG
      have hq7 := cwf_le hst
      have cls : ∀ (g : zG) (gr : Bool) (d : Nat) (m : zm) (Q : Option Value → zH → Prop), CR s m → (∀ m', CR s m' → fC m m' → pC m' 147 (gn (y_W s w)) (st (y_W s w)).1 (st (y_W s w)).2.1 → m'.1 147 1 = nI (st (y_W s w)).2.2 → WP g gr (d + 4) mX9_start 0 0 50 [.ref 1, .retAddr 0, .int (nI k), .retAddr 0, .int (nI (q0 (y_W s w)))] [] (mk m') Q) → Ok g gr (d + 4) mX9_start 0 0 [.ref 1, .int (nI w), .int (nI k)] (mk m) Q := by
        intro g gr d m Q hc HH
        have hp := hc.1.1 w hw
        refine b_X9_start_0 (rg_y hw ⟨pk_in w 3 hw, rh_y (n := 3) hk ?_⟩)
        rw [cw (by omega)]
        refine k_byColours a_147 (s272 hw) hG hp (by omega) (fun m1 a1 _ _ a4 => ?_)
        refine b_X9_start_33 (s272 hw) ?_
        rw [a1.1]
        refine k_refine a_147 (s272 hw) (by omega) hG (pG_fz hp a4 (by omega)) (by omega) (c0_cwf hG.1) (q0_pos hG) a1 (fun m2 b1 b2 b3 => ?_)
        exact HH m2 (CR_fz (CR_fz hc a4 (by omega)) b3 (by omega)) (fC_trans (fC_fz a4 (by omega)) (fC_fz b3 (by omega))) b1 b2
      have mdl : ∀ (g : zG) (gr : Bool) (d : Nat) (m : zm) (Q : Option Value → zH → Prop), MR s m → (∀ m', MR (qs s 0) m' → fX m m' → pD m' (y_W s w) → pE m' (gn (y_W s w)) (st (y_W s w)).1 (st (y_W s w)).2.1 → WP g gr (d + 4) mX10_start 0 0 53 [.ref 810, .retAddr 0, .int (nI k), .int (nI (q0 (y_W s w))), .retAddr 0] [.int (nI (st (y_W s w)).2.2)] (mk m') Q) → Ok g gr (d + 4) mX10_start 0 0 [.ref 810, .int (nI w), .int (nI k)] (mk m) Q := by
        intro g gr d m Q hm HH
        have hb := MR_b hm
        refine b_X10_start_0 ?_
        rintro m1 rfl
        refine ite_y (isG_y hw) (ite_y (in_y (n := 3) (by omega) (by decide)) ⟨MR_1 hb, ?_⟩)
        refine d_lays (by omega) hG hw (hb.1 w hw) (fun m2 a1 a2 => ?_)
        refine b_X10_start_40 (d_laysColours hG a1 (fun m3 b1 b2 => ?_))
        refine b_X10_start_44 ?_
        rw [b1.2]
        refine d_refines (by omega) hG (pD_fM a1 b2) b1 (c0_cwf hG.1) (q0_pos hG) (fun m4 c1 c2 => ?_)
        exact HH m4 (MR_fM (MR_fM (MR_fM hb a2) b2) c2) (fX_trans fX_b (fX_trans (fX_fM a2) (fX_trans (fX_fM b2) (fX_fM c2)))) (pD_fM (pD_fM a1 b2) c2) c1
      rcases (show k = 0 ∨ k = 1 ∨ k = 2 ∨ k = 3 by omega) with rfl | rfl | rfl | rfl
      · refine ⟨qs s 0, nI (st (y_W s w)).2.1, sOK_qs hs 0, fun g gr e m Q he hc K => ?_, fun g gr e m Q he hm K => ?_⟩
        · obtain ⟨d, rfl⟩ := dn (show 4 ≤ e by omega)
          refine cls g gr d m Q hc (fun m' a1 a2 b1 b2 => b_X9_start_50 ⟨fun _ => ?_, fun z => absurd z (by decide), fun z => absurd z (by decide), fun z => absurd rfl z.1⟩)
          rw [b1.1]
          exact K _ (CR_t a1) (fC_trans a2 fC_t)
        · obtain ⟨d, rfl⟩ := dn (show 4 ≤ e by omega)
          refine mdl g gr d m Q hm (fun m' a1 a2 b1 b2 => b_X10_start_53 ⟨fun _ => ?_, fun z => absurd z (by decide), fun z => absurd z (by decide), fun z => absurd rfl z.1⟩)
          rw [b2.2]
          exact K _ a1 a2
      · refine ⟨qs s 0, nI (st (y_W s w)).2.2, sOK_qs hs 0, fun g gr e m Q he hc K => ?_, fun g gr e m Q he hm K => ?_⟩
        · obtain ⟨d, rfl⟩ := dn (show 4 ≤ e by omega)
          refine cls g gr d m Q hc (fun m' a1 a2 b1 b2 => b_X9_start_50 ⟨fun z => absurd z (by decide), fun _ => ?_, fun z => absurd z (by decide), fun z => absurd rfl z.2.1⟩)
          rw [b2]
          exact K _ (CR_t a1) (fC_trans a2 fC_t)
        · obtain ⟨d, rfl⟩ := dn (show 4 ≤ e by omega)
          refine mdl g gr d m Q hm (fun m' a1 a2 b1 b2 => b_X10_start_53 ⟨fun z => absurd z (by decide), fun _ => ?_, fun z => absurd z (by decide), fun z => absurd rfl z.2.1⟩)
          exact K _ a1 a2
      · refine ⟨qs s 0, nI (q0 (y_W s w)), sOK_qs hs 0, fun g gr e m Q he hc K => ?_, fun g gr e m Q he hm K => ?_⟩
        · obtain ⟨d, rfl⟩ := dn (show 4 ≤ e by omega)
          refine cls g gr d m Q hc (fun m' a1 a2 b1 b2 => b_X9_start_50 ⟨fun z => absurd z (by decide), fun z => absurd z (by decide), fun _ => ?_, fun z => absurd rfl z.2.2⟩)
          exact K _ (CR_t a1) (fC_trans a2 fC_t)
        · obtain ⟨d, rfl⟩ := dn (show 4 ≤ e by omega)
          refine mdl g gr d m Q hm (fun m' a1 a2 b1 b2 => b_X10_start_53 ⟨fun z => absurd z (by decide), fun z => absurd z (by decide), fun _ => ?_, fun z => absurd rfl z.2.2⟩)
          exact K _ a1 a2
      · refine ⟨qs s 0, nI (tgm (st (y_W s w)).1 (gn (y_W s w)) (st (y_W s w)).2.1), sOK_qs hs 0, fun g gr e m Q he hc K => ?_, fun g gr e m Q he hm K => ?_⟩
        · obtain ⟨d, rfl⟩ := dn (show 4 ≤ e by omega)
          refine cls g gr d m Q hc (fun m' a1 a2 b1 b2 => b_X9_start_50 ⟨fun z => absurd z (by decide), fun z => absurd z (by decide), fun z => absurd z (by decide), fun _ => ?_⟩)
          refine k_target a_147 (by omega) h7 b1 (by omega) ?_
          exact b_X9_start_115 (K _ (CR_t a1) (fC_trans a2 fC_t))
        · obtain ⟨d, rfl⟩ := dn (show 4 ≤ e by omega)
          refine mdl g gr d m Q hm (fun m' a1 a2 b1 b2 => b_X10_start_53 ⟨fun z => absurd z (by decide), fun z => absurd z (by decide), fun z => absurd z (by decide), fun _ => ?_⟩)
          refine d_targetCell (by omega) h7 b1.1 b2 hst ?_
          have htl := tg_le (st (y_W s w)).1 (gn (y_W s w)) (st (y_W s w)).2.1
          refine b_X10_start_98 ⟨fun z => ?_, fun z => ?_⟩
          · have h0 : tg (st (y_W s w)).1 (gn (y_W s w)) (st (y_W s w)).2.1 ≠ 0 := fun y => z ((tgv_0 (by omega)).mpr y)
            refine d_targetCell (by omega) h7 b1.1 b2 hst (b_X10_start_111 ?_)
            rw [tgv_n h0]
            refine d_setOf h7 b1.1 b2 (fun v hv => by have := hst.1 v hv; omega) (by omega) (b_X10_start_114 ?_)
            rw [tgv_tgm h0]
            exact K _ a1 a2
          · have h0 := (tgv_0 (by omega)).mp z
            have e0 : tgm (st (y_W s w)).1 (gn (y_W s w)) (st (y_W s w)).2.1 = 0 := tgm_0.mpr h0
            rw [e0] at K
            exact K _ a1 a2
theorem x_cell {s : Sg} (hs : sOK s) (l1 l2 : Int32) : BX s mX9_cell mX10_cell [.int l1, .int l2] := by
  rcases i_case l1 3 (by decide) with h | ⟨w, hw, rfl⟩
  · refine ⟨qs s 1, -1, sOK_qs hs 1, fun g gr e m Q he hc K => ?_, fun g gr e m Q he hm K => ?_⟩
    · obtain ⟨d, rfl⟩ := dn (show 5 ≤ e by omega)
      exact b_X9_cell_0 (rg_n h (K _ (CR_t hc) fC_t))
    · obtain ⟨d, rfl⟩ := dn (show 5 ≤ e by omega)
      refine b_X10_cell_0 ?_
      rintro m1 rfl
      exact ite_n (isG_n h) (m_no hm K)
  · have hG := hs.1 w hw
    have h7 := hG.2.1.2
    have hst := st_cwf hG
    have hq7 := cwf_le hst
    have cls : ∀ (g : zG) (gr : Bool) (d : Nat) (m : zm) (Q : Option Value → zH → Prop), CR s m → (∀ m', CR s m' → fC m m' → pC m' 147 (gn (y_W s w)) (st (y_W s w)).1 (st (y_W s w)).2.1 → WP g gr (d + 5) mX9_cell 0 0 24 [.ref 1, .retAddr 0, .int l2, .retAddr 0] [] (mk m') Q) → Ok g gr (d + 5) mX9_cell 0 0 [.ref 1, .int (nI w), .int l2] (mk m) Q := by
      intro g gr d m Q hc HH
      have hp := hc.1.1 w hw
      refine b_X9_cell_0 (rg_y hw ⟨pk_in w 3 hw, ?_⟩)
      rw [cw (by omega)]
      exact k_begin a_147 (s272 hw) (by omega) hG hp (by omega) (fun m1 a1 _ a4 => HH m1 (CR_fz hc a4 (by omega)) (fC_fz a4 (by omega)) a1)
    have mdl : ∀ (g : zG) (gr : Bool) (d : Nat) (m : zm) (Q : Option Value → zH → Prop), MR s m → (∀ m' r, MR (qs s 0) m' → fX m m' → pD m' (y_W s w) → pE m' (gn (y_W s w)) (st (y_W s w)).1 (st (y_W s w)).2.1 → WP g gr (d + 5) mX10_cell 0 0 35 [.ref 810, .retAddr 0, .int l2] [.int r] (mk m') Q) → Ok g gr (d + 5) mX10_cell 0 0 [.ref 810, .int (nI w), .int l2] (mk m) Q := by
      intro g gr d m Q hm HH
      have hb := MR_b hm
      refine b_X10_cell_0 ?_
      rintro m1 rfl
      refine ite_y (isG_y hw) ⟨MR_1 hb, ?_⟩
      refine d_lays (by omega) hG hw (hb.1 w hw) (fun m2 a1 a2 => ?_)
      refine b_X10_cell_31 (d_starts (by omega) hG a1 (fun m3 b1 b2 => ?_))
      exact HH m3 _ (MR_fM (MR_fM hb a2) b2) (fX_trans fX_b (fX_trans (fX_fM a2) (fX_fM b2))) (pD_fM a1 b2) b1
    rcases i_case l2 (st (y_W s w)).2.1 (by omega) with h2 | ⟨j, hj, rfl⟩
    · refine ⟨qs s 1, -1, sOK_qs hs 1, fun g gr e m Q he hc K => ?_, fun g gr e m Q he hm K => ?_⟩
      · obtain ⟨d, rfl⟩ := dn (show 5 ≤ e by omega)
        exact cls g gr d m Q hc (fun m' a1 a2 b1 => b_X9_cell_24 (rl_n h2 (K _ (CR_t a1) (fC_trans a2 fC_t)) b1.1))
      · obtain ⟨d, rfl⟩ := dn (show 5 ≤ e by omega)
        exact mdl g gr d m Q hm (fun m' r a1 a2 b1 b2 => b_X10_cell_35 (ite_n (in1_n h2 b2.2) (m_no2 a1 a2 K)))
    · refine ⟨qs s 0, nI (bm (fun v => (st (y_W s w)).1 v == j) (gn (y_W s w))), sOK_qs hs 0, fun g gr e m Q he hc K => ?_, fun g gr e m Q he hm K => ?_⟩
      · obtain ⟨d, rfl⟩ := dn (show 5 ≤ e by omega)
        refine cls g gr d m Q hc (fun m' a1 a2 b1 => b_X9_cell_24 (rl_y hj ⟨pk_in j 7 (by omega), ?_⟩ b1.1))
        rw [cw (by omega), b1.2 j hj]
        exact K _ (CR_t a1) (fC_trans a2 fC_t)
      · obtain ⟨d, rfl⟩ := dn (show 5 ≤ e by omega)
        refine mdl g gr d m Q hm (fun m' r a1 a2 b1 b2 => b_X10_cell_35 (ite_y (in1_y hj b2.2) ⟨MR_1 a1, ?_⟩))
        exact d_setOf h7 b1.1 b2 (fun v hv => by have := hst.1 v hv; omega) (by omega) (b_X10_cell_70 (K _ a1 a2))
end ZAs
