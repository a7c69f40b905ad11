/-! acts: paint, copy, undo -/
def gP (G : Gr) (v c : Nat) : Gr := (gn G, fun x => if x = v then c else gc G x, gk G)
theorem gP_WF {G : Gr} (hG : gWF G) {v c : Nat} (hv : v < gn G) (hc : c < 10) : gWF (gP G v c) := by
  obtain ⟨⟨a1, a2, a3, a4⟩, a5, a6, a7⟩ := hG
  refine ⟨⟨fun x => ?_, a2, a3, a4⟩, a5, fun x hx => ?_, a7⟩
  · show (if x = v then c else gc G x) < 10
    split
    · exact hc
    · exact a1 x
  · show (if x = v then c else gc G x) = 0
    have hx : gn G ≤ x := hx
    rw [if_neg (by omega)]; exact a6 x hx
theorem gP_s (G : Gr) (v c : Nat) : gc (gP G v c) v = c := if_pos rfl
theorem gP_n {G : Gr} {v c x : Nat} (h : x ≠ v) : gc (gP G v c) x = gc G x := if_neg h
section ZAc
theorem x_paint {s : Sg} (hs : sOK s) (l1 l2 l3 : Int32) : BX s mX9_paint mX10_paint [.int l1, .int l2, .int l3] := by
  rcases i_case l1 3 (by decide) with h | ⟨w, hw, rfl⟩
  · refine ⟨qs s 1, -1, sOK_qs hs 1, fun g gr e m Q he hc K => ?_, fun g gr e m Q he hm K => ?_⟩
    · obtain ⟨d, rfl⟩ := dn (show 4 ≤ e by omega)
      exact b_X9_paint_0 (rg_n h (K _ (CR_t hc) fC_t))
    · obtain ⟨d, rfl⟩ := dn (show 3 ≤ e by omega)
      refine b_X10_paint_0 ?_
      rintro m1 rfl
      exact ite_n (isG_n h) (m_no hm K)
  · have hG := hs.1 w hw
    have h7 := hG.2.1.2
    rcases i_case l2 (gn (y_W s w)) (by omega) with h2 | ⟨v, hv, rfl⟩
    · refine ⟨qs s 1, -1, sOK_qs hs 1, fun g gr e m Q he hc K => ?_, fun g gr e m Q he hm K => ?_⟩
      · obtain ⟨d, rfl⟩ := dn (show 4 ≤ e by omega)
        refine b_X9_paint_0 (rg_y hw ⟨pk_in w 3 hw, ?_⟩)
        rw [cw (by omega)]
        exact ite_n (has_n h2 (W_n hc hw)) (K _ (CR_t hc) fC_t)
      · obtain ⟨d, rfl⟩ := dn (show 3 ≤ e by omega)
        refine b_X10_paint_0 ?_
        rintro m1 rfl
        refine ite_y (isG_y hw) ?_
        rw [e57, c57 hw]
        exact ⟨v57 hw, ite_n (in1_n h2 ((MR_b hm).1 w hw).1) (m_no hm K)⟩
    · rcases i_case l3 10 (by decide) with h3 | ⟨c, hcl, rfl⟩
      · refine ⟨qs s 2, -1, sOK_qs hs 2, fun g gr e m Q he hc K => ?_, fun g gr e m Q he hm K => ?_⟩
        · obtain ⟨d, rfl⟩ := dn (show 4 ≤ e by omega)
          refine b_X9_paint_0 (rg_y hw ⟨pk_in w 3 hw, ?_⟩)
          rw [cw (show w < 2 ^ 31 by omega)]
          exact ite_y (has_y hv (W_n hc hw)) (rl_n (n := 10) h3 (K _ (CR_t hc) fC_t))
        · obtain ⟨d, rfl⟩ := dn (show 3 ≤ e by omega)
          refine b_X10_paint_0 ?_
          rintro m1 rfl
          refine ite_y (isG_y hw) ?_
          rw [e57, c57 hw]
          exact ⟨v57 hw, ite_y (in1_y hv ((MR_b hm).1 w hw).1) ⟨MR_1 (MR_b hm), ite_n (in_n (n := 9) (by decide) h3) (m_no hm K).2⟩⟩
      · have hP := gP_WF hG hv hcl
        refine ⟨qs (gs (ks s w) w (gP (y_W s w) v c)) 0, nI (gc (y_W s w) v), sOK_qs (sOK_gs (sOK_ks hs hw) hP) 0, fun g gr e m Q he hc K => ?_, fun g gr e m Q he hm K => ?_⟩
        · obtain ⟨d, rfl⟩ := dn (show 4 ≤ e by omega)
          refine b_X9_paint_0 (rg_y hw ⟨pk_in w 3 hw, ?_⟩)
          rw [cw (show w < 2 ^ 31 by omega)]
          refine ite_y (has_y hv (W_n hc hw)) (rl_y (n := 10) hcl ?_)
          refine c_keep (by omega) hs hw hc (fun m1 a1 a2 => b_X9_paint_53 (s272 hw) ⟨pk_in v 7 (by omega), ?_⟩)
          have p1 : pG m1 (272 + 140 * w) (y_W s w) := a1.1.1 w hw
          rw [cw (show v < 2 ^ 31 by omega), p1.2.1 v (by omega)]
          intro m2 e2
          have f2 : fz (272 + 140 * w) (287 + 140 * w) m1 m2 := fun x hx => by rw [e2]; exact ⟨funext fun k => rI_n (fun q => by omega), rfl⟩
          have q2 : ∀ x k, x ≠ 272 + 140 * w + 1 → m2.1 x k = m1.1 x k := fun x k hx => by rw [e2]; exact rI_n (fun q => hx q.1)
          have p2 : pG m2 (272 + 140 * w) (gP (y_W s w) v c) := by
            refine ⟨by rw [q2 _ _ (by omega)]; exact p1.1, fun x hx => ?_, fun x y hx hy => by rw [q2 _ _ (by omega)]; exact p1.2.2.1 x y hx hy, fun k x hk hx => by rw [q2 _ _ (by omega)]; exact p1.2.2.2 k x hk hx⟩
            by_cases z : x = v
            · subst z; rw [gP_s, e2, rI_s]
            · rw [gP_n z, e2, rI_n (fun q => z q.2)]; exact p1.2.1 x hx
          exact K _ (CR_t (CR_g hw a1 p2 f2)) (fC_trans a2 (fC_trans (fC_fz f2 (by omega)) fC_t))
        · obtain ⟨d, rfl⟩ := dn (show 3 ≤ e by omega)
          have hb := MR_b hm
          have pw : pW (wBegins m) w (y_W s w) := hb.1 w hw
          refine b_X10_paint_0 ?_
          rintro m1 rfl
          refine ite_y (isG_y hw) ?_
          rw [e57, c57 hw]
          refine ⟨v57 hw, ite_y (in1_y hv pw.1) ⟨MR_1 hb, ite_y (in_y (n := 9) (by omega) (by decide)) ?_⟩⟩
          refine d_keeps (w := w) (sOK_qs hs 0) hb (fun m1 a1 a2 => b_X10_paint_55 ?_)
          have p1 : pW m1 w (y_W s w) := a1.1 w hw
          rw [e57, show (1 : Int32) = nI 1 from rfl, nI_add, nI_add, cw (show 57 * w + 1 + v < 2 ^ 31 by omega), p1.2.1 v (by omega)]
          refine ⟨pk_in (57 * w + 1 + v) 171 (by omega), K _ (MR_g (G := gP (y_W s w) v c) a1 ⟨by rw [rI_n (by omega)]; exact p1.1, fun x hx => ?_, fun x y hx hy => by rw [rI_n (by omega)]; exact p1.2.2 x y hx hy⟩ (fun j hj => rI_n (by omega)) (funext fun k => rI_n (by omega)) (funext fun k => rI_n (by omega)) (funext fun k => rI_n (by omega)) (funext fun k => rI_n (by omega)) (fun k hk => rI_n (by omega))) (fX_trans fX_b (fX_trans (fX_fM a2) fX_r))⟩
          by_cases z : x = v
          · subst z; rw [gP_s, rI_s]
          · rw [gP_n z, rI_n (by omega)]; exact p1.2.1 x hx
theorem x_copy {s : Sg} (hs : sOK s) (l1 l2 : Int32) : BX s mX9_copy mX10_copy [.int l1, .int l2] := by
  rcases i_case l1 3 (by decide) with h | ⟨w, hw, rfl⟩
  · refine ⟨qs s 1, -1, sOK_qs hs 1, fun g gr e m Q he hc K => ?_, fun g gr e m Q he hm K => ?_⟩
    · obtain ⟨d, rfl⟩ := dn (show 4 ≤ e by omega)
      exact b_X9_copy_0 (rg_n h (rg_any (K _ (CR_t hc) fC_t)))
    · obtain ⟨d, rfl⟩ := dn (show 2 ≤ e by omega)
      refine b_X10_copy_0 ?_
      rintro m1 rfl
      exact ite_n (isG_n h) (m_no hm K)
  · rcases i_case l2 3 (by decide) with h2 | ⟨u, hu, rfl⟩
    · refine ⟨qs s 1, -1, sOK_qs hs 1, fun g gr e m Q he hc K => ?_, fun g gr e m Q he hm K => ?_⟩
      · obtain ⟨d, rfl⟩ := dn (show 4 ≤ e by omega)
        exact b_X9_copy_0 (rg_y hw ⟨pk_in w 3 hw, rg_n h2 (K _ (CR_t hc) fC_t)⟩)
      · obtain ⟨d, rfl⟩ := dn (show 2 ≤ e by omega)
        refine b_X10_copy_0 ?_
        rintro m1 rfl
        exact ite_y (isG_y hw) (ite_n (isG_n h2) (m_no hm K))
    · have hG := hs.1 w hw
      have hH := hs.1 u hu
      have h7 := hG.2.1.2
      have h7' := hH.2.1.2
      by_cases hwu : w = u
      · subst hwu
        refine ⟨qs s 5, -1, sOK_qs hs 5, fun g gr e m Q he hc K => ?_, fun g gr e m Q he hm K => ?_⟩
        · obtain ⟨d, rfl⟩ := dn (show 4 ≤ e by omega)
          exact b_X9_copy_0 (rg_y hw ⟨pk_in w 3 hw, rg_y hu ⟨pk_in w 3 hu, ⟨fun z => absurd rfl z, fun _ => K _ (CR_t hc) fC_t⟩⟩⟩)
        · obtain ⟨d, rfl⟩ := dn (show 2 ≤ e by omega)
          refine b_X10_copy_0 ?_
          rintro m1 rfl
          exact ite_y (isG_y hw) (ite_y (isG_y hu) ⟨MR_1 (MR_b hm), fun z => absurd rfl z, fun _ => (m_no hm K).2⟩)
      · have hne : ¬ nI w = nI u := fun z => hwu ((nI_eq (by omega) (by omega)).mp z)
        refine ⟨qs (gs (ks s u) u (y_W s w)) 0, nI (gn (y_W s w)), sOK_qs (sOK_gs (sOK_ks hs hu) hG) 0, fun g gr e m Q he hc K => ?_, fun g gr e m Q he hm K => ?_⟩
        · obtain ⟨d, rfl⟩ := dn (show 4 ≤ e by omega)
          refine b_X9_copy_0 (rg_y hw ⟨pk_in w 3 hw, rg_y hu ⟨pk_in u 3 hu, ⟨fun _ => ?_, fun z => absurd z hne⟩⟩⟩)
          rw [cw (show w < 2 ^ 31 by omega), cw (show u < 2 ^ 31 by omega)]
          refine c_keep (by omega) hs hu hc (fun m1 a1 a2 => b_X9_copy_49 (s272 hw) (s272 hu) ?_)
          have p1 : pG m1 (272 + 140 * w) (y_W s w) := a1.1.1 w hw
          have hd : 272 + 140 * u + 15 ≤ 272 + 140 * w ∨ 272 + 140 * w + 15 ≤ 272 + 140 * u := by
            have : w = 0 ∨ w = 1 ∨ w = 2 := by omega
            have : u = 0 ∨ u = 1 ∨ u = 2 := by omega
            omega
          refine k_take (s272 hu) (s272 hw) (by omega) hd p1 (fun m2 b1 b2 => b_X9_copy_55 (s272 hu) ?_)
          rw [b1.1]
          exact K _ (CR_t (CR_g hu a1 b1 (by rw [show 287 + 140 * u = 272 + 140 * u + 15 by omega]; exact b2))) (fC_trans a2 (fC_trans (fC_fz b2 (by omega)) fC_t))
        · obtain ⟨d, rfl⟩ := dn (show 2 ≤ e by omega)
          have hb := MR_b hm
          refine b_X10_copy_0 ?_
          rintro m1 rfl
          refine ite_y (isG_y hw) (ite_y (isG_y hu) ⟨MR_1 hb, ⟨fun _ => ?_, fun z => absurd z hne⟩⟩)
          refine d_keeps (w := u) (sOK_qs hs 0) hb (fun m1 a1 a2 => b_X10_copy_55 ?_)
          have p1 : pW m1 w (y_W s w) := a1.1 w hw
          have hd : 57 * u + 57 ≤ 57 * w ∨ 57 * w + 57 ≤ 57 * u := by omega
          refine up_to (n := 57) (P := fun k => ∀ m', (∀ j, j < k → m'.1 811 (57 * u + j) = m1.1 811 (57 * w + j)) → (∀ j, (j < 57 * u ∨ 57 * u + 57 ≤ j) → m'.1 811 j = m1.1 811 j) → fM [] [811] m1 m' → WP g gr (d + 2) mX10_copy 0 0 57 [.ref 810, .int (nI w), .int (nI u), .int (nI k)] [] (mk m') Q) ?_ ?_ 0 (Nat.zero_le _) m1 (fun j hj => absurd hj (Nat.not_lt_zero _)) (fun _ _ => rfl) (fM_refl _ _ _)
          · intro m' b1 b2 b3
            refine b_X10_copy_57 (pk_le 57 57 (fun _ => ?_) (fun z => absurd z (Nat.lt_irrefl _)))
            have p2 : pW m' u (y_W s w) := pR_copy (show pR m1 811 (57 * w) (y_W s w) from p1) (fun k hk => b1 k hk)
            rw [e57, c57 hu, p2.1]
            exact ⟨v57 hu, K _ (MR_g a1 p2 b2 (b3.1 812 (by decide) (by decide)) (b3.1 813 (by decide) (by decide)) (b3.1 814 (by decide) (by decide)) (b3.1 815 (by decide) (by decide)) (fun k _ => fM_2 b3 (by simp))) (fX_trans fX_b (fX_trans (fX_fM a2) (fX_fM b3)))⟩
          · intro k hk ih m' b1 b2 b3
            refine b_X10_copy_57 (pk_le 57 k (fun z => by omega) (fun _ => ?_))
            rw [e57, e57, nI_add, nI_add, cw (show 57 * w + k < 2 ^ 31 by omega), cw (show 57 * u + k < 2 ^ 31 by omega), b2 (57 * w + k) (by omega), nI_1]
            refine ⟨pk_in (57 * w + k) 171 (by omega), pk_in (57 * u + k) 171 (by omega), ih _ (fun j hj => ?_) (fun j hj => by rw [rI_n (by omega)]; exact b2 j hj) (fM_trans b3 fM_r)⟩
            by_cases z : j = k
            · subst z; exact rI_s
            · rw [rI_n (by omega)]; exact b1 j (by omega)
end ZAc
