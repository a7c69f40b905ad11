/-! acts: turn, drop, paint, link, copy -/
section ZAc
variable {g : zG} {gr : Bool} {e : Nat} {m : zm} {Q : Option Value → zH → Prop}
theorem d_becomesLaid {G : Gr} {w : Nat} (hG : gWF G) (hw : w < 3) (hp : pD m G) (K : ∀ m', pW m' w G → (∀ j, (j < 57 * w ∨ 57 * w + 57 ≤ j) → m'.1 811 j = m.1 811 j) → fM [] [811] m m' → Q none (mk m')) : Ok g gr e mX10_becomesLaid 0 0 [.ref 810, .int (nI w)] (mk m) Q := by
  have h7 := hG.2.1.2
  refine b_X10_becomesLaid_0 (d := e) (up_to (n := 57) (P := fun k => ∀ m', (∀ j, j < k → m'.1 811 (57 * w + j) = nI 0) → (∀ j, (j < 57 * w ∨ 57 * w + 57 ≤ j) → m'.1 811 j = m.1 811 j) → fM [] [811] m m' → WP g gr e mX10_becomesLaid 0 0 2 [.ref 810, .int (nI w), .int (nI k), .retAddr 0] [] (mk m') Q) ?_ ?_ 0 (Nat.zero_le _) m (fun j hj => absurd hj (Nat.not_lt_zero _)) (fun _ _ => rfl) (fM_refl _ _ _))
  · intro m' a1 a2 a3
    refine b_X10_becomesLaid_2 (d := e) (pk_le 57 57 (fun _ => ?_) (fun z => absurd z (Nat.lt_irrefl _)))
    rw [e57, c57 hw, fM_2 a3, hp.1]
    refine ⟨v57 hw, ?_⟩
    refine up_to (n := gn G) (P := fun v => ∀ m', m'.1 811 (57 * w) = nI (gn G) → (∀ x, x < v → m'.1 811 (57 * w + 1 + x) = nI (gc G x)) → (∀ x, v ≤ x → x < 7 → m'.1 811 (57 * w + 1 + x) = nI 0) → (∀ x y, x < v → y < gn G → m'.1 811 (57 * w + 8 + 7 * x + y) = nI (gk G x y)) → (∀ x y, x < 7 → y < 7 → (v ≤ x ∨ gn G ≤ y) → m'.1 811 (57 * w + 8 + 7 * x + y) = nI 0) → (∀ j, (j < 57 * w ∨ 57 * w + 57 ≤ j) → m'.1 811 j = m.1 811 j) → fM [] [811] m m' → WP g gr e mX10_becomesLaid 0 0 41 [.ref 810, .int (nI w), .int (nI v), .retAddr 0] [] (mk m') Q) ?_ ?_ 0 (Nat.zero_le _) _ rI_s (fun x hx => absurd hx (Nat.not_lt_zero _)) (fun x _ hx => by rw [rI_n (by omega), Nat.add_assoc]; exact a1 _ (by omega)) (fun x y hx => absurd hx (Nat.not_lt_zero _)) (fun x y hx hy _ => by rw [rI_n (by omega), Nat.add_assoc, Nat.add_assoc]; exact a1 _ (by omega)) (fun j hj => by rw [rI_n (by omega)]; exact a2 j hj) (fM_trans a3 fM_r)
    · intro m2 b1 b2 b3 b4 b5 b6 b7
      refine b_X10_becomesLaid_41 (d := e) (pk_le (gn G) (gn G) (fun _ => K m2 ⟨b1, fun v hv => ?_, fun x y hx hy => ?_⟩ b6 b7) (fun z => absurd z (Nat.lt_irrefl _)) (by rw [fM_2 b7]; exact hp.1))
      · by_cases z : v < gn G
        · exact b2 v z
        · rw [b3 v (by omega) hv, hG.2.2.1 v (by omega)]
      · by_cases z : x < gn G ∧ y < gn G
        · exact b4 x y z.1 z.2
        · rw [b5 x y hx hy (by omega)]
          rcases Nat.lt_or_ge x (gn G) with q | q
          · rw [hG.1.2.2.1 x y, hG.2.2.2 y x (by omega)]
          · rw [hG.2.2.2 x y q]
    · intro v hv ih m2 b1 b2 b3 b4 b5 b6 b7
      refine b_X10_becomesLaid_41 (d := e) (pk_le (gn G) v (fun z => by omega) (fun _ => ?_) (by rw [fM_2 b7]; exact hp.1))
      rw [e57, show (1 : Int32) = nI 1 from rfl, nI_add, nI_add, cw (show 57 * w + 1 + v < 2 ^ 31 by omega), cw (show v < 2 ^ 31 by omega), fM_1 b7 (a := 817), hp.2.1 v hv]
      refine ⟨pk_in v 7 (by omega), pk_in (57 * w + 1 + v) 171 (by omega), ?_⟩
      refine up_to (n := gn G) (P := fun y => ∀ m', m'.1 811 (57 * w) = nI (gn G) → (∀ x, x < v + 1 → m'.1 811 (57 * w + 1 + x) = nI (gc G x)) → (∀ x, v + 1 ≤ x → x < 7 → m'.1 811 (57 * w + 1 + x) = nI 0) → (∀ x y, x < v → y < gn G → m'.1 811 (57 * w + 8 + 7 * x + y) = nI (gk G x y)) → (∀ z, z < y → m'.1 811 (57 * w + 8 + 7 * v + z) = nI (gk G v z)) → (∀ x z, x < 7 → z < 7 → (v + 1 ≤ x ∨ gn G ≤ z) → m'.1 811 (57 * w + 8 + 7 * x + z) = nI 0) → (∀ j, (j < 57 * w ∨ 57 * w + 57 ≤ j) → m'.1 811 j = m.1 811 j) → fM [] [811] m m' → WP g gr e mX10_becomesLaid 0 0 70 [.ref 810, .int (nI w), .int (nI v), .int (nI y)] [] (mk m') Q) ?_ ?_ 0 (Nat.zero_le _) _ (by rw [rI_n (by omega)]; exact b1) (fun x hx => ?_) (fun x h1 h2 => by rw [rI_n (by omega)]; exact b3 x (by omega) h2) (fun x y hx hy => by rw [rI_n (by omega)]; exact b4 x y hx hy) (fun z hz => absurd hz (Nat.not_lt_zero _)) (fun x z hx hz h => by rw [rI_n (by omega)]; exact b5 x z hx hz (by omega)) (fun j hj => by rw [rI_n (by omega)]; exact b6 j hj) (fM_trans b7 fM_r)
      · intro m3 c1 c2 c3 c4 c5 c6 c7 c8
        refine b_X10_becomesLaid_70 (d := e) (pk_le (gn G) (gn G) (fun _ => ?_) (fun z => absurd z (Nat.lt_irrefl _)) (by rw [fM_2 c8]; exact hp.1))
        rw [nI_1]
        refine ih m3 c1 c2 c3 (fun x y hx hy => ?_) c6 c7 c8
        by_cases z : x = v
        · subst z; exact c5 y hy
        · exact c4 x y (by omega) hy
      · intro y hy ihy m3 c1 c2 c3 c4 c5 c6 c7 c8
        refine b_X10_becomesLaid_70 (d := e) (pk_le (gn G) y (fun z => by omega) (fun _ => ?_) (by rw [fM_2 c8]; exact hp.1))
        rw [e57, show (8 : Int32) = nI 8 from rfl, show (7 : Int32) = nI 7 from rfl, pk_mul, nI_add, nI_add, nI_add, nI_add, cw (show 57 * w + 8 + 7 * v + y < 2 ^ 31 by omega), cw (show 7 * v + y < 2 ^ 31 by omega), fM_1 c8 (a := 818), hp.2.2 v y hv hy, nI_1]
        refine ⟨pk_in (7 * v + y) 49 (by omega), pk_in (57 * w + 8 + 7 * v + y) 171 (by omega), ?_⟩
        refine ihy _ (by rw [rI_n (by omega)]; exact c1) (fun x hx => by rw [rI_n (by omega)]; exact c2 x hx) (fun x h1 h2 => by rw [rI_n (by omega)]; exact c3 x h1 h2) (fun x z hx hz => by rw [rI_n (by omega)]; exact c4 x z hx hz) (fun z hz => ?_) (fun x z hx hz h => by rw [rI_n (by omega)]; exact c6 x z hx hz h) (fun j hj => by rw [rI_n (by omega)]; exact c7 j hj) (fM_trans c8 fM_r)
        by_cases q : z = y
        · subst q; exact rI_s
        · rw [rI_n (by omega)]; exact c5 z (by omega)
      · by_cases z : x = v
        · subst z; exact rI_s
        · rw [rI_n (by omega)]; exact b2 x (by omega)
  · intro k hk ih m' a1 a2 a3
    refine b_X10_becomesLaid_2 (d := e) (pk_le 57 k (fun z => by omega) (fun _ => ?_))
    rw [e57, nI_add, cw (show 57 * w + k < 2 ^ 31 by omega), nI_1]
    refine ⟨pk_in (57 * w + k) 171 (by omega), ih _ (fun j hj => ?_) (fun j hj => by rw [rI_n (by omega)]; exact a2 j hj) (fM_trans a3 fM_r)⟩
    by_cases z : j = k
    · subst z; exact rI_s
    · rw [rI_n (by omega)]; exact a1 j (by omega)
/-- the model's graph is changed, by what lies laid -/
theorem MR_laid {s : Sg} {m1 m2 m3 : zm} {w : Nat} {G : Gr} {F A : List Nat} (hm : MR (ks s w) m1) (f : fM F A m1 m2) (hp : pW m3 w G) (ho : ∀ j, (j < 57 * w ∨ 57 * w + 57 ≤ j) → m3.1 811 j = m2.1 811 j) (f3 : fM [] [811] m2 m3) (h1 : 811 ∉ A ∧ 812 ∉ A ∧ 813 ∉ A ∧ 814 ∉ A ∧ 815 ∉ A := by decide) (h2 : 6 ∉ F ∧ 10 ∉ F ∧ 3 ∉ F ∧ 2 ∉ F ∧ 1 ∉ F := by decide) : MR (gs (ks s w) w G) m3 := by
  refine MR_g hm hp (fun j hj => by rw [ho j hj, fM_1 f j (by decide) h1.1]) ?_ ?_ ?_ ?_ (fun k hk => ?_)
  · rw [f3.1 812 (by decide) (by decide), f.1 812 (by decide) h1.2.1]
  · rw [f3.1 813 (by decide) (by decide), f.1 813 (by decide) h1.2.2.1]
  · rw [f3.1 814 (by decide) (by decide), f.1 814 (by decide) h1.2.2.2.1]
  · rw [f3.1 815 (by decide) (by decide), f.1 815 (by decide) h1.2.2.2.2]
  · rw [fM_2 f3 (by simp)]
    rcases hk with rfl | rfl | rfl | rfl | rfl
    · exact fM_2 f h2.2.2.2.2
    · exact fM_2 f h2.2.2.2.1
    · exact fM_2 f h2.2.2.1
    · exact fM_2 f h2.1
    · exact fM_2 f h2.2.1
end ZAc
section ZAc
theorem x_turn {s : Sg} (hs : sOK s) (l1 : Int32) : BX s mX9_turn mX10_turn [.int l1] := by
  rcases i_case l1 3 (by decide) with h | ⟨w, hw, rfl⟩
  · refine ⟨qs s 1, -1, sOK_qs hs 1, fun g gr e m Q he hc K => ?_, fun g gr e m Q he hm K => ?_⟩
    · obtain ⟨d, rfl⟩ := dn (show 4 ≤ e by omega)
      exact b_X9_turn_0 (rg_n h (K _ (CR_t hc) fC_t))
    · obtain ⟨d, rfl⟩ := dn (show 3 ≤ e by omega)
      refine b_X10_turn_0 ?_
      rintro m1 rfl
      exact ite_n (isG_n h) (m_no hm K)
  · have hG := hs.1 w hw
    have h7 := hG.2.1.2
    have hT := gT_WF hG
    refine ⟨qs (gs (ks s w) w (gT (y_W s w))) 0, nI (fb_sm (dgr (gT (y_W s w))) (gn (gT (y_W s w))) / 2), sOK_qs (sOK_gs (sOK_ks hs hw) hT) 0, fun g gr e m Q he hc K => ?_, fun g gr e m Q he hm K => ?_⟩
    · obtain ⟨d, rfl⟩ := dn (show 4 ≤ e by omega)
      refine b_X9_turn_0 (rg_y hw ⟨pk_in w 3 hw, ?_⟩)
      rw [cw (by omega)]
      refine c_keep (by omega) hs hw hc (fun m1 a1 a2 => b_X9_turn_25 (s272 hw) ?_)
      refine k_turnKinds (s272 hw) (by omega) hG (a1.1.1 w hw) (fun m2 b1 b2 => b_X9_turn_29 (s272 hw) ?_)
      have c2 := CR_g hw a1 b1 (by rw [show 287 + 140 * w = 272 + 140 * w + 15 by omega]; exact b2)
      exact k_links (s272 hw) (by omega) hT.2.1.2 b1 (b_X9_turn_34 (K _ (CR_t c2) (fC_trans a2 (fC_trans (fC_fz b2 (by omega)) fC_t))))
    · obtain ⟨d, rfl⟩ := dn (show 3 ≤ e by omega)
      have hb := MR_b hm
      refine b_X10_turn_0 ?_
      rintro m1 rfl
      refine ite_y (isG_y hw) ⟨MR_1 hb, d_keeps (w := w) (sOK_qs hs 0) hb (fun m1 a1 a2 => b_X10_turn_30 ?_)⟩
      refine d_laysTurned (by omega) hG hw (a1.1 w hw) (fun m2 b1 b2 => b_X10_turn_35 (d_becomesLaid hT hw b1 (fun m3 c1 c2 c3 => b_X10_turn_40 ?_)))
      exact d_linksOf (by omega) hT hw c1 (b_X10_turn_45 (K _ (MR_laid a1 b2 c1 c2 c3) (fX_trans fX_b (fX_trans (fX_fM a2) (fX_trans (fX_fM b2) (fX_fM c3))))))
theorem x_drop {s : Sg} (hs : sOK s) (l1 l2 : Int32) : BX s mX9_drop mX10_drop [.int l1, .int l2] := by
  rcases i_case l1 3 (by decide) with h | ⟨w, hw, rfl⟩
  · refine ⟨qs s 1, -1, sOK_qs hs 1, fun g gr e m Q he hc K => ?_, fun g gr e m Q he hm K => ?_⟩
    · obtain ⟨d, rfl⟩ := dn (show 4 ≤ e by omega)
      exact b_X9_drop_0 (rg_n h (K _ (CR_t hc) fC_t))
    · obtain ⟨d, rfl⟩ := dn (show 3 ≤ e by omega)
      refine b_X10_drop_0 ?_
      rintro m1 rfl
      exact ite_n (isG_n h) (m_no hm K)
  · have hG := hs.1 w hw
    have h7 := hG.2.1.2
    rcases i_case l2 (gn (y_W s w)) (by omega) with h2 | ⟨v, hv, rfl⟩
    · refine ⟨qs s 1, -1, sOK_qs hs 1, fun g gr e m Q he hc K => ?_, fun g gr e m Q he hm K => ?_⟩
      · obtain ⟨d, rfl⟩ := dn (show 4 ≤ e by omega)
        refine b_X9_drop_0 (rg_y hw ⟨pk_in w 3 hw, ?_⟩)
        rw [cw (by omega)]
        exact ite_n (has_n h2 (W_n hc hw)) (K _ (CR_t hc) fC_t)
      · obtain ⟨d, rfl⟩ := dn (show 3 ≤ e by omega)
        refine b_X10_drop_0 ?_
        rintro m1 rfl
        refine ite_y (isG_y hw) ?_
        rw [e57, c57 hw]
        exact ⟨v57 hw, ite_n (in1_n h2 ((MR_b hm).1 w hw).1) (m_no hm K)⟩
    · by_cases h1 : gn (y_W s w) = 1
      · refine ⟨qs s 5, -1, sOK_qs hs 5, fun g gr e m Q he hc K => ?_, fun g gr e m Q he hm K => ?_⟩
        · obtain ⟨d, rfl⟩ := dn (show 4 ≤ e by omega)
          refine b_X9_drop_0 (rg_y hw ⟨pk_in w 3 hw, ?_⟩)
          rw [cw (by omega)]
          refine ite_y (has_y hv (W_n hc hw)) ⟨fun z => absurd (by rw [W_n hc hw, h1]; rfl) z, fun _ => K _ (CR_t hc) fC_t⟩
        · obtain ⟨d, rfl⟩ := dn (show 3 ≤ e by omega)
          have hb := MR_b hm
          have pw : pW (wBegins m) w (y_W s w) := hb.1 w hw
          refine b_X10_drop_0 ?_
          rintro m1 rfl
          refine ite_y (isG_y hw) ?_
          rw [e57, c57 hw]
          exact ⟨v57 hw, ite_y (in1_y hv pw.1) ⟨MR_1 hb, fun z => absurd (by rw [pw.1, h1]; rfl) z, fun _ => (m_no hm K).2⟩⟩
      · have hn : 1 < gn (y_W s w) := by have := hG.2.1.1; omega
        have hne : ¬ nI (gn (y_W s w)) = 1 := by
          rw [show (1 : Int32) = nI 1 from rfl, nI_eq (by omega) (by decide)]; exact h1
        have hD := gD_WF (v := v) hG hn
        refine ⟨qs (gs (ks s w) w (gD (y_W s w) v)) 0, nI (gn (y_W s w) - 1), sOK_qs (sOK_gs (sOK_ks hs hw) hD) 0, fun g gr e m Q he hc K => ?_, fun g gr e m Q he hm K => ?_⟩
        · obtain ⟨d, rfl⟩ := dn (show 4 ≤ e by omega)
          refine b_X9_drop_0 (rg_y hw ⟨pk_in w 3 hw, ?_⟩)
          rw [cw (by omega)]
          refine ite_y (has_y hv (W_n hc hw)) ⟨fun _ => ?_, fun z => absurd z (by rw [W_n hc hw]; exact hne)⟩
          refine c_keep (by omega) hs hw hc (fun m1 a1 a2 => b_X9_drop_47 (s272 hw) ?_)
          refine k_lose (s272 hw) (by omega) hG (a1.1.1 w hw) hn hv (fun m2 b1 b2 => b_X9_drop_52 (s272 hw) ?_)
          have c2 := CR_g hw a1 b1 (by rw [show 287 + 140 * w = 272 + 140 * w + 15 by omega]; exact b2)
          rw [b1.1]
          exact K _ (CR_t c2) (fC_trans a2 (fC_trans (fC_fz b2 (by omega)) fC_t))
        · obtain ⟨d, rfl⟩ := dn (show 3 ≤ e by omega)
          have hb := MR_b hm
          have pw : pW (wBegins m) w (y_W s w) := hb.1 w hw
          refine b_X10_drop_0 ?_
          rintro m1 rfl
          refine ite_y (isG_y hw) ?_
          rw [e57, c57 hw]
          refine ⟨v57 hw, ite_y (in1_y hv pw.1) ⟨MR_1 hb, fun _ => ?_, fun z => absurd z (by rw [pw.1]; exact hne)⟩⟩
          refine d_keeps (w := w) (sOK_qs hs 0) hb (fun m1 a1 a2 => b_X10_drop_54 ?_)
          refine d_laysCard (by omega) hG hw (a1.1 w hw) hv hn (fun m2 b1 b2 => b_X10_drop_60 (d_becomesLaid hD hw b1 (fun m3 c1 c2 c3 => b_X10_drop_65 ?_)))
          rw [fM_2 c3, b1.1]
          exact K _ (MR_laid a1 b2 c1 c2 c3) (fX_trans fX_b (fX_trans (fX_fM a2) (fX_trans (fX_fM b2) (fX_fM c3))))
end ZAc
