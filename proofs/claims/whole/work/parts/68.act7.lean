/-! acts: swap -/
def cmn (G : Gr) (a b : Nat) : Nat := fb_ct (fun y => lk 0 (gk G a y) && lk 0 (gk G b y)) 7
theorem lk_00 : lk 0 0 = false := rfl
theorem cmn_X {G : Gr} (hG : gOK G) {a b : Nat} (hab : a ≠ b) : cmn (gX G a b) a b = cmn G a b := by
  refine fb_ct_cong fun y _ => ?_
  show (lk 0 (gk G (tr a b a) (tr a b y)) && lk 0 (gk G (tr a b b) (tr a b y))) = _
  rw [tr_a, tr_b]
  by_cases z : y = a
  · subst z; rw [tr_a, hG.2.2.2 b, hG.2.2.2 y, lk_00]; simp
  · by_cases z2 : y = b
    · subst z2; rw [tr_b, hG.2.2.2 a, hG.2.2.2 y, lk_00]; simp
    · rw [tr_o z z2, Bool.and_comm]
section ZAc
theorem x_swap {s : Sg} (hs : sOK s) (l1 l2 l3 : Int32) : BX s mX9_swap mX10_swap [.int l1, .int l2, .int l3] := by
  rcases i_case l1 3 (by decide) with h | ⟨w, hw, rfl⟩
  · refine ⟨qs s 1, -1, sOK_qs hs 1, fun g gr e m Q he hc K => ?_, fun g gr e m Q he hm K => ?_⟩
    · obtain ⟨d, rfl⟩ := dn (show 4 ≤ e by omega)
      exact b_X9_swap_0 (rg_n h (K _ (CR_t hc) fC_t))
    · obtain ⟨d, rfl⟩ := dn (show 3 ≤ e by omega)
      refine b_X10_swap_0 ?_
      rintro m1 rfl
      exact ite_n (isG_n h) (m_no hm K)
  · have hG := hs.1 w hw
    have h7 := hG.2.1.2
    rcases i_case l2 (gn (y_W s w)) (by omega) with h2 | ⟨a, ha, rfl⟩
    · refine ⟨qs s 1, -1, sOK_qs hs 1, fun g gr e m Q he hc K => ?_, fun g gr e m Q he hm K => ?_⟩
      · obtain ⟨d, rfl⟩ := dn (show 4 ≤ e by omega)
        refine b_X9_swap_0 (rg_y hw ⟨pk_in w 3 hw, ?_⟩)
        rw [cw (by omega)]
        exact ite_n (has_n h2 (W_n hc hw)) (K _ (CR_t hc) fC_t)
      · obtain ⟨d, rfl⟩ := dn (show 3 ≤ e by omega)
        refine b_X10_swap_0 ?_
        rintro m1 rfl
        refine ite_y (isG_y hw) ?_
        rw [e57, c57 hw]
        exact ⟨v57 hw, ite_n (in1_n h2 ((MR_b hm).1 w hw).1) (m_no hm K)⟩
    · rcases i_case l3 (gn (y_W s w)) (by omega) with h3 | ⟨b, hb0, rfl⟩
      · refine ⟨qs s 1, -1, sOK_qs hs 1, fun g gr e m Q he hc K => ?_, fun g gr e m Q he hm K => ?_⟩
        · obtain ⟨d, rfl⟩ := dn (show 4 ≤ e by omega)
          refine b_X9_swap_0 (rg_y hw ⟨pk_in w 3 hw, ?_⟩)
          rw [cw (show w < 2 ^ 31 by omega)]
          exact ite_y (has_y ha (W_n hc hw)) (ite_n (has_n h3 (W_n hc hw)) (K _ (CR_t hc) fC_t))
        · obtain ⟨d, rfl⟩ := dn (show 3 ≤ e by omega)
          refine b_X10_swap_0 ?_
          rintro m1 rfl
          refine ite_y (isG_y hw) ?_
          rw [e57, c57 hw]
          exact ⟨v57 hw, ite_y (in1_y ha ((MR_b hm).1 w hw).1) (ite_n (in1_n h3 ((MR_b hm).1 w hw).1) (m_no hm K))⟩
      · by_cases hab : a = b
        · subst hab
          refine ⟨qs s 5, -1, sOK_qs hs 5, fun g gr e m Q he hc K => ?_, fun g gr e m Q he hm K => ?_⟩
          · obtain ⟨d, rfl⟩ := dn (show 4 ≤ e by omega)
            refine b_X9_swap_0 (rg_y hw ⟨pk_in w 3 hw, ?_⟩)
            rw [cw (show w < 2 ^ 31 by omega)]
            exact ite_y (has_y ha (W_n hc hw)) (ite_y (has_y ha (W_n hc hw)) ⟨fun z => absurd rfl z, fun _ => K _ (CR_t hc) fC_t⟩)
          · obtain ⟨d, rfl⟩ := dn (show 3 ≤ e by omega)
            have hb := MR_b hm
            have pw : pW (wBegins m) w (y_W s w) := hb.1 w hw
            refine b_X10_swap_0 ?_
            rintro m1 rfl
            refine ite_y (isG_y hw) ?_
            rw [e57, c57 hw]
            exact ⟨v57 hw, ite_y (in1_y ha pw.1) (ite_y (in1_y ha pw.1) ⟨MR_1 hb, fun z => absurd rfl z, fun _ => (m_no hm K).2⟩)⟩
        · have hne : ¬ nI a = nI b := fun z => hab ((nI_eq (by omega) (by omega)).mp z)
          have hX := gX_WF hG ha hb0
          refine ⟨qs (gs (ks s w) w (gX (y_W s w) a b)) 0, nI (cmn (y_W s w) a b), sOK_qs (sOK_gs (sOK_ks hs hw) hX) 0, fun g gr e m Q he hc K => ?_, fun g gr e m Q he hm K => ?_⟩
          · obtain ⟨d, rfl⟩ := dn (show 4 ≤ e by omega)
            refine b_X9_swap_0 (rg_y hw ⟨pk_in w 3 hw, ?_⟩)
            rw [cw (show w < 2 ^ 31 by omega)]
            refine ite_y (has_y ha (W_n hc hw)) (ite_y (has_y hb0 (W_n hc hw)) ⟨fun _ => ?_, fun z => absurd z hne⟩)
            refine c_keep (by omega) hs hw hc (fun m1 a1 a2 => b_X9_swap_57 (s272 hw) ?_)
            have p1 : pG m1 (272 + 140 * w) (y_W s w) := a1.1.1 w hw
            refine k_exchange (s272 hw) (by omega) hG p1 ha hb0 hab (fun m2 b1 b2 => b_X9_swap_64 (s272 hw) ⟨pk_in a 7 (by omega), pk_in b 7 (by omega), ?_⟩)
            have ra := b1.2.2.2 0 a (by decide) (by omega)
            have rb := b1.2.2.2 0 b (by decide) (by omega)
            rw [Nat.add_zero] at ra rb
            rw [cw (show a < 2 ^ 31 by omega), cw (show b < 2 ^ 31 by omega), ra, rb, fa_and, bm_and, i_bm (by decide)]
            have := K _ (CR_t (CR_g hw a1 b1 (by rw [show 287 + 140 * w = 272 + 140 * w + 15 by omega]; exact b2))) (fC_trans a2 (fC_trans (fC_fz b2 (by omega)) fC_t))
            rw [← cmn_X hG.1 hab] at this
            exact this
          · obtain ⟨d, rfl⟩ := dn (show 3 ≤ e by omega)
            have hb := MR_b hm
            have pw : pW (wBegins m) w (y_W s w) := hb.1 w hw
            refine b_X10_swap_0 ?_
            rintro m1 rfl
            refine ite_y (isG_y hw) ?_
            rw [e57, c57 hw]
            refine ⟨v57 hw, ite_y (in1_y ha pw.1) (ite_y (in1_y hb0 pw.1) ⟨MR_1 hb, fun _ => ?_, fun z => absurd z hne⟩)⟩
            refine d_keeps (w := w) (sOK_qs hs 0) hb (fun m1 a1 a2 => b_X10_swap_59 ?_)
            have p1 : pW m1 w (y_W s w) := a1.1 w hw
            refine d_rowOf (by omega) hG hw p1 ha (b_X10_swap_65 (d_rowOf (by omega) hG hw p1 hb0 (b_X10_swap_71 ?_)))
            rw [fa_and, bm_and]
            refine d_ones (bm_7 h7) (b_X10_swap_75 ?_)
            have ec : fb_ct (bm (fun i => lk 0 (gk (y_W s w) a i) && lk 0 (gk (y_W s w) b i)) (gn (y_W s w))).testBit 7 = cmn (y_W s w) a b := by
              rw [bm_ct h7]
              have := ct_beyond (p := fun y => lk 0 (gk (y_W s w) a y) && lk 0 (gk (y_W s w) b y)) (n := gn (y_W s w)) (7 - gn (y_W s w)) (fun i hi => by rw [lk_out hG 0 a hi]; rfl)
              rw [show gn (y_W s w) + (7 - gn (y_W s w)) = 7 by omega] at this
              exact this.symm
            rw [ec]
            refine d_swaps (by omega) hG hw p1 ha hb0 hab (fun m2 b1 b2 b3 => b_X10_swap_84 ?_)
            exact K _ (MR_g a1 b1 b2 (b3.1 812 (by decide) (by decide)) (b3.1 813 (by decide) (by decide)) (b3.1 814 (by decide) (by decide)) (b3.1 815 (by decide) (by decide)) (fun k _ => fM_2 b3 (by simp))) (fX_trans fX_b (fX_trans (fX_fM a2) (fX_fM b3)))
end ZAc
