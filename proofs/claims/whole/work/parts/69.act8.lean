/-! acts: grow -/
def gai (G : Gr) (set i x y : Nat) : Nat := if x = gn G ∧ y < i then (if set.testBit y = true then 1 else 0) else if y = gn G ∧ x < i then (if set.testBit x = true then 1 else 0) else gk G x y
section ZAc
theorem x_grow {s : Sg} (hs : sOK s) (l1 l2 l3 : Int32) : BX s mX9_grow mX10_grow [.int l1, .int l2, .int l3] := by
  rcases i_case l1 3 (by decide) with h | ⟨w, hw, rfl⟩
  · refine ⟨qs s 1, -1, sOK_qs hs 1, fun g gr e m Q he hc K => ?_, fun g gr e m Q he hm K => ?_⟩
    · obtain ⟨d, rfl⟩ := dn (show 4 ≤ e by omega)
      exact b_X9_grow_0 (rg_n h (K _ (CR_t hc) fC_t))
    · obtain ⟨d, rfl⟩ := dn (show 2 ≤ e by omega)
      refine b_X10_grow_0 ?_
      rintro m1 rfl
      exact ite_n (isG_n h) (m_no hm K)
  · have hG := hs.1 w hw
    have h7 := hG.2.1.2
    have h27 := p7 h7
    have two : (l2 < 0 ∨ (¬ l2 < 0 ∧ nI (2 ^ gn (y_W s w)) ≤ l2)) → BX s mX9_grow mX10_grow [.int (nI w), .int l2, .int l3] := by
      intro h2
      refine ⟨qs s 2, -1, sOK_qs hs 2, fun g gr e m Q he hc K => ?_, fun g gr e m Q he hm K => ?_⟩
      · obtain ⟨d, rfl⟩ := dn (show 4 ≤ e by omega)
        refine b_X9_grow_0 (rg_y hw ⟨pk_in w 3 hw, ?_⟩)
        rw [cw (by omega)]
        exact ite_n (all_n h2 h7 (W_n hc hw)) (K _ (CR_t hc) fC_t)
      · obtain ⟨d, rfl⟩ := dn (show 2 ≤ e by omega)
        have hb := MR_b hm
        refine b_X10_grow_0 ?_
        rintro m1 rfl
        refine ite_y (isG_y hw) ⟨MR_1 hb, ?_⟩
        rw [e57, c57 hw]
        exact set_n h2 h7 (hb.1 w hw).1 (m_no hm K).2 (v57 hw)
    rcases i_case l2 (2 ^ gn (y_W s w)) (by omega) with h2 | ⟨k, hk, rfl⟩
    · exact two h2
    · rcases i_case l3 10 (by decide) with h3 | ⟨c, hcl, rfl⟩
      · refine ⟨qs s 2, -1, sOK_qs hs 2, fun g gr e m Q he hc K => ?_, fun g gr e m Q he hm K => ?_⟩
        · obtain ⟨d, rfl⟩ := dn (show 4 ≤ e by omega)
          refine b_X9_grow_0 (rg_y hw ⟨pk_in w 3 hw, ?_⟩)
          rw [cw (by omega)]
          exact ite_y (all_y hk h7 (W_n hc hw)) (rl_n (n := 10) h3 (K _ (CR_t hc) fC_t))
        · obtain ⟨d, rfl⟩ := dn (show 2 ≤ e by omega)
          have hb := MR_b hm
          refine b_X10_grow_0 ?_
          rintro m1 rfl
          refine ite_y (isG_y hw) ⟨MR_1 hb, ?_⟩
          rw [e57, c57 hw]
          exact set_y hk h7 (hb.1 w hw).1 (ite_n (in_n (n := 9) (by decide) h3) (m_no hm K).2) (v57 hw)
      · by_cases hn : gn (y_W s w) = 7
        · refine ⟨qs s 5, -1, sOK_qs hs 5, fun g gr e m Q he hc K => ?_, fun g gr e m Q he hm K => ?_⟩
          · obtain ⟨d, rfl⟩ := dn (show 4 ≤ e by omega)
            refine b_X9_grow_0 (rg_y hw ⟨pk_in w 3 hw, ?_⟩)
            rw [cw (by omega)]
            refine ite_y (all_y hk h7 (W_n hc hw)) (rl_y (n := 10) hcl ?_)
            rw [W_n hc hw, hn]
            exact ite_n (by decide) (K _ (CR_t hc) fC_t)
          · obtain ⟨d, rfl⟩ := dn (show 2 ≤ e by omega)
            have hb := MR_b hm
            have pw : pW (wBegins m) w (y_W s w) := hb.1 w hw
            refine b_X10_grow_0 ?_
            rintro m1 rfl
            refine ite_y (isG_y hw) ⟨MR_1 hb, ?_⟩
            rw [e57, c57 hw]
            exact set_y hk h7 pw.1 (ite_y (in_y (n := 9) (by omega) (by decide)) ⟨fun z => absurd (by rw [pw.1, hn]; rfl) z, fun _ => (m_no hm K).2⟩) (v57 hw)
        · have hlt : gn (y_W s w) < 7 := by omega
          have hA := gA_WF (set := k) hG hlt hcl
          have hne : ¬ nI (gn (y_W s w)) = 7 := by rw [show (7 : Int32) = nI 7 from rfl, nI_eq (by omega) (by decide)]; exact hn
          refine ⟨qs (gs (ks s w) w (gA (y_W s w) k c)) 0, nI (gn (y_W s w) + 1), sOK_qs (sOK_gs (sOK_ks hs hw) hA) 0, fun g gr e m Q he hc K => ?_, fun g gr e m Q he hm K => ?_⟩
          · obtain ⟨d, rfl⟩ := dn (show 4 ≤ e by omega)
            refine b_X9_grow_0 (rg_y hw ⟨pk_in w 3 hw, ?_⟩)
            rw [cw (by omega)]
            refine ite_y (all_y hk h7 (W_n hc hw)) (rl_y (n := 10) hcl (ite_y ?_ ?_))
            · rw [W_n hc hw]; exact nI_lt hlt (by decide)
            refine c_keep (by omega) hs hw hc (fun m1 a1 a2 => b_X9_grow_69 (s272 hw) ?_)
            refine k_gain (s272 hw) (by omega) hG (a1.1.1 w hw) hlt (by omega) (fun m2 b1 b2 => b_X9_grow_76 (s272 hw) ?_)
            rw [b1.1]
            exact K _ (CR_t (CR_g hw a1 b1 (by rw [show 287 + 140 * w = 272 + 140 * w + 15 by omega]; exact b2))) (fC_trans a2 (fC_trans (fC_fz b2 (by omega)) fC_t))
          · obtain ⟨d, rfl⟩ := dn (show 2 ≤ e by omega)
            have hb := MR_b hm
            have pw : pW (wBegins m) w (y_W s w) := hb.1 w hw
            refine b_X10_grow_0 ?_
            rintro m1 rfl
            refine ite_y (isG_y hw) ⟨MR_1 hb, ?_⟩
            rw [e57, c57 hw]
            refine set_y hk h7 pw.1 (ite_y (in_y (n := 9) (by omega) (by decide)) ⟨fun _ => ?_, fun z => absurd z (by rw [pw.1]; exact hne)⟩) (v57 hw)
            refine d_keeps (w := w) (sOK_qs hs 0) hb (fun m1 a1 a2 => b_X10_grow_85 ?_)
            have p1 : pW m1 w (y_W s w) := a1.1 w hw
            rw [e57, c57 hw, p1.1, show (1 : Int32) = nI 1 from rfl, nI_add, nI_add, nI_add, cw (show 57 * w + 1 + gn (y_W s w) < 2 ^ 31 by omega)]
            refine ⟨v57 hw, ?_⟩
            rintro m2 rfl
            refine ⟨pk_in (57 * w + 1 + gn (y_W s w)) 171 (by omega), ?_⟩
            refine up_to (n := gn (y_W s w)) (P := fun i => ∀ m', m'.1 811 (57 * w) = nI (gn (y_W s w) + 1) → (∀ x, x < 7 → m'.1 811 (57 * w + 1 + x) = nI (gc (gA (y_W s w) k c) x)) → (∀ x y, x < 7 → y < 7 → m'.1 811 (57 * w + 8 + 7 * x + y) = nI (gai (y_W s w) k i x y)) → (∀ j, (j < 57 * w ∨ 57 * w + 57 ≤ j) → m'.1 811 j = m1.1 811 j) → fM [] [811] m1 m' → WP g gr (d + 2) mX10_grow 0 0 123 [.ref 810, .int (nI w), .int (nI k), .retAddr 0, .int (nI (gn (y_W s w))), .int (nI i)] [] (mk m') Q) ?_ ?_ 0 (Nat.zero_le _) _ (by rw [rI_n (by omega), rI_s]) (fun x hx => ?_) (fun x y hx hy => ?_) (fun j hj => by rw [rI_n (by omega), rI_n (by omega)]) (fM_trans fM_r fM_r)
            · intro m' c1 c2 c3 c4 c5
              refine b_X10_grow_123 (pk_le (gn (y_W s w)) (gn (y_W s w)) (fun _ => ?_) (fun z => absurd z (Nat.lt_irrefl _)))
              rw [nI_1]
              exact K _ (MR_g (G := gA (y_W s w) k c) a1 ⟨c1, c2, c3⟩ c4 (c5.1 812 (by decide) (by decide)) (c5.1 813 (by decide) (by decide)) (c5.1 814 (by decide) (by decide)) (c5.1 815 (by decide) (by decide)) (fun k _ => fM_2 c5 (by simp))) (fX_trans fX_b (fX_trans (fX_fM a2) (fX_fM c5)))
            · intro i hi ih m' c1 c2 c3 c4 c5
              have step : ∀ v : Nat, v = (if k.testBit i = true then 1 else 0) → WP g gr (d + 2) mX10_grow 0 0 123 [.ref 810, .int (nI w), .int (nI k), .retAddr 0, .int (nI (gn (y_W s w))), .int (nI (i + 1))] [] (mk (wI (wI m' 811 (57 * w + 8 + 7 * gn (y_W s w) + i) (nI v)) 811 (57 * w + 8 + 7 * i + gn (y_W s w)) (nI v))) Q := by
                intro v hv
                refine ih _ (by rw [rI_n (by omega), rI_n (by omega)]; exact c1) (fun x hx => by rw [rI_n (by omega), rI_n (by omega)]; exact c2 x hx) (fun x y hx hy => ?_) (fun j hj => by rw [rI_n (by omega), rI_n (by omega)]; exact c4 j hj) (fM_trans c5 (fM_trans fM_r fM_r))
                by_cases z1 : x = i ∧ y = gn (y_W s w)
                · obtain ⟨rfl, rfl⟩ := z1
                  rw [rI_s, hv]; unfold gai
                  rw [if_neg (show ¬ (x = gn (y_W s w) ∧ gn (y_W s w) < x + 1) by omega), if_pos (show gn (y_W s w) = gn (y_W s w) ∧ x < x + 1 from ⟨rfl, Nat.lt_succ_self _⟩)]
                · by_cases z2 : x = gn (y_W s w) ∧ y = i
                  · obtain ⟨rfl, rfl⟩ := z2
                    rw [rI_n (by omega), rI_s, hv]; unfold gai
                    rw [if_pos (show gn (y_W s w) = gn (y_W s w) ∧ y < y + 1 from ⟨rfl, Nat.lt_succ_self _⟩)]
                  · rw [rI_n (by omega), rI_n (by omega), c3 x y hx hy]; unfold gai
                    have d1 : (x = gn (y_W s w) ∧ y < i + 1) ↔ (x = gn (y_W s w) ∧ y < i) := by omega
                    have d2 : (y = gn (y_W s w) ∧ x < i + 1) ↔ (y = gn (y_W s w) ∧ x < i) := by omega
                    simp only [d1, d2]
              refine b_X10_grow_123 (pk_le (gn (y_W s w)) i (fun z => by omega) (fun _ => ?_))
              rw [i_has (by omega) (by omega), e57, show (8 : Int32) = nI 8 from rfl, show (7 : Int32) = nI 7 from rfl, pk_mul, pk_mul, nI_add, nI_add, nI_add, nI_add, nI_add, cw (show 57 * w + 8 + 7 * gn (y_W s w) + i < 2 ^ 31 by omega), cw (show 57 * w + 8 + 7 * i + gn (y_W s w) < 2 ^ 31 by omega), nI_1]
              refine ⟨fun z => ⟨pk_in (57 * w + 8 + 7 * gn (y_W s w) + i) 171 (by omega), ?_⟩, fun z => ⟨pk_in (57 * w + 8 + 7 * gn (y_W s w) + i) 171 (by omega), ?_⟩⟩
              · rintro m2 rfl
                exact ⟨pk_in (57 * w + 8 + 7 * i + gn (y_W s w)) 171 (by omega), step 1 (by rw [if_pos z])⟩
              · rintro m2 rfl
                exact ⟨pk_in (57 * w + 8 + 7 * i + gn (y_W s w)) 171 (by omega), step 0 (by rw [if_neg z])⟩
            · show _ = nI (if x = gn (y_W s w) then c else gc (y_W s w) x)
              by_cases z : x = gn (y_W s w)
              · rw [z, rI_s, if_pos rfl]
              · rw [if_neg z, rI_n (by omega), rI_n (by omega)]; exact p1.2.1 x hx
            · rw [rI_n (by omega), rI_n (by omega), p1.2.2 x y hx hy]
              unfold gai
              rw [if_neg (fun z => absurd z.2 (Nat.not_lt_zero _)), if_neg (fun z => absurd z.2 (Nat.not_lt_zero _))]
end ZAc
