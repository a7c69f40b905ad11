/-! acts: link, undo -/
section ZAc
theorem x_link {s : Sg} (hs : sOK s) (l1 l2 l3 l4 : Int32) : BX s mX9_link mX10_link [.int l1, .int l2, .int l3, .int l4] := by
  rcases i_case l1 3 (by decide) with h | ⟨w, hw, rfl⟩
  · refine ⟨qs s 1, -1, sOK_qs hs 1, fun g gr e m Q he hc K => ?_, fun g gr e m Q he hm K => ?_⟩
    · obtain ⟨d, rfl⟩ := dn (show 4 ≤ e by omega)
      exact b_X9_link_0 (rg_n h (K _ (CR_t hc) fC_t))
    · obtain ⟨d, rfl⟩ := dn (show 3 ≤ e by omega)
      refine b_X10_link_0 ?_
      rintro m1 rfl
      exact ite_n (isG_n h) (m_no hm K)
  · have hG := hs.1 w hw
    have h7 := hG.2.1.2
    rcases i_case l2 (gn (y_W s w)) (by omega) with h2 | ⟨a, ha, rfl⟩
    · refine ⟨qs s 1, -1, sOK_qs hs 1, fun g gr e m Q he hc K => ?_, fun g gr e m Q he hm K => ?_⟩
      · obtain ⟨d, rfl⟩ := dn (show 4 ≤ e by omega)
        refine b_X9_link_0 (rg_y hw ⟨pk_in w 3 hw, ?_⟩)
        rw [cw (by omega)]
        exact ite_n (has_n h2 (W_n hc hw)) (K _ (CR_t hc) fC_t)
      · obtain ⟨d, rfl⟩ := dn (show 3 ≤ e by omega)
        refine b_X10_link_0 ?_
        rintro m1 rfl
        refine ite_y (isG_y hw) ?_
        rw [e57, c57 hw]
        exact ⟨v57 hw, ite_n (in1_n h2 ((MR_b hm).1 w hw).1) (m_no hm K)⟩
    · rcases i_case l3 (gn (y_W s w)) (by omega) with h3 | ⟨b, hb0, rfl⟩
      · refine ⟨qs s 1, -1, sOK_qs hs 1, fun g gr e m Q he hc K => ?_, fun g gr e m Q he hm K => ?_⟩
        · obtain ⟨d, rfl⟩ := dn (show 4 ≤ e by omega)
          refine b_X9_link_0 (rg_y hw ⟨pk_in w 3 hw, ?_⟩)
          rw [cw (show w < 2 ^ 31 by omega)]
          exact ite_y (has_y ha (W_n hc hw)) (ite_n (has_n h3 (W_n hc hw)) (K _ (CR_t hc) fC_t))
        · obtain ⟨d, rfl⟩ := dn (show 3 ≤ e by omega)
          refine b_X10_link_0 ?_
          rintro m1 rfl
          refine ite_y (isG_y hw) ?_
          rw [e57, c57 hw]
          exact ⟨v57 hw, ite_y (in1_y ha ((MR_b hm).1 w hw).1) (ite_n (in1_n h3 ((MR_b hm).1 w hw).1) (m_no hm K))⟩
      · by_cases hab : a = b
        · subst hab
          refine ⟨qs s 5, -1, sOK_qs hs 5, fun g gr e m Q he hc K => ?_, fun g gr e m Q he hm K => ?_⟩
          · obtain ⟨d, rfl⟩ := dn (show 4 ≤ e by omega)
            refine b_X9_link_0 (rg_y hw ⟨pk_in w 3 hw, ?_⟩)
            rw [cw (show w < 2 ^ 31 by omega)]
            exact ite_y (has_y ha (W_n hc hw)) (ite_y (has_y ha (W_n hc hw)) ⟨fun z => absurd rfl z, fun _ => K _ (CR_t hc) fC_t⟩)
          · obtain ⟨d, rfl⟩ := dn (show 3 ≤ e by omega)
            have hb := MR_b hm
            have pw : pW (wBegins m) w (y_W s w) := hb.1 w hw
            refine b_X10_link_0 ?_
            rintro m1 rfl
            refine ite_y (isG_y hw) ?_
            rw [e57, c57 hw]
            exact ⟨v57 hw, ite_y (in1_y ha pw.1) (ite_y (in1_y ha pw.1) ⟨MR_1 hb, fun z => absurd rfl z, fun _ => (m_no hm K).2⟩)⟩
        · have hne : ¬ nI a = nI b := fun z => hab ((nI_eq (by omega) (by omega)).mp z)
          rcases i_case l4 4 (by decide) with h4 | ⟨k, hk, rfl⟩
          · refine ⟨qs s 2, -1, sOK_qs hs 2, fun g gr e m Q he hc K => ?_, fun g gr e m Q he hm K => ?_⟩
            · obtain ⟨d, rfl⟩ := dn (show 4 ≤ e by omega)
              refine b_X9_link_0 (rg_y hw ⟨pk_in w 3 hw, ?_⟩)
              rw [cw (show w < 2 ^ 31 by omega)]
              exact ite_y (has_y ha (W_n hc hw)) (ite_y (has_y hb0 (W_n hc hw)) ⟨fun _ => rl_n (n := 4) h4 (K _ (CR_t hc) fC_t), fun z => absurd z hne⟩)
            · obtain ⟨d, rfl⟩ := dn (show 3 ≤ e by omega)
              have hb := MR_b hm
              have pw : pW (wBegins m) w (y_W s w) := hb.1 w hw
              refine b_X10_link_0 ?_
              rintro m1 rfl
              refine ite_y (isG_y hw) ?_
              rw [e57, c57 hw]
              exact ⟨v57 hw, ite_y (in1_y ha pw.1) (ite_y (in1_y hb0 pw.1) ⟨MR_1 hb, fun _ => ite_n (in_n (n := 3) (by decide) h4) (m_no hm K).2, fun z => absurd z hne⟩)⟩
          · have hJ := gJ_WF hG hk hab ha hb0
            refine ⟨qs (gs (ks s w) w (gJ (y_W s w) a b k)) 0, nI (gk (y_W s w) a b), sOK_qs (sOK_gs (sOK_ks hs hw) hJ) 0, fun g gr e m Q he hc K => ?_, fun g gr e m Q he hm K => ?_⟩
            · obtain ⟨d, rfl⟩ := dn (show 4 ≤ e by omega)
              refine b_X9_link_0 (rg_y hw ⟨pk_in w 3 hw, ?_⟩)
              rw [cw (show w < 2 ^ 31 by omega)]
              refine ite_y (has_y ha (W_n hc hw)) (ite_y (has_y hb0 (W_n hc hw)) ⟨fun _ => rl_y (n := 4) hk ?_, fun z => absurd z hne⟩)
              refine c_keep (by omega) hs hw hc (fun m1 a1 a2 => b_X9_link_74 (s272 hw) ⟨pk_in a 7 (by omega), pk_in b 7 (by omega), ?_⟩)
              have p1 : pG m1 (272 + 140 * w) (y_W s w) := a1.1.1 w hw
              rw [cw (show a < 2 ^ 31 by omega), cw (show b < 2 ^ 31 by omega), p1.2.2.1 a b (by omega) (by omega)]
              refine k_join (s272 hw) p1 (by omega) (by omega) hab hk (fun m2 b1 b2 => b_X9_link_94 ?_)
              exact K _ (CR_t (CR_g hw a1 b1 (by rw [show 287 + 140 * w = 272 + 140 * w + 15 by omega]; exact b2))) (fC_trans a2 (fC_trans (fC_fz b2 (by omega)) fC_t))
            · obtain ⟨d, rfl⟩ := dn (show 3 ≤ e by omega)
              have hb := MR_b hm
              have pw : pW (wBegins m) w (y_W s w) := hb.1 w hw
              refine b_X10_link_0 ?_
              rintro m1 rfl
              refine ite_y (isG_y hw) ?_
              rw [e57, c57 hw]
              refine ⟨v57 hw, ite_y (in1_y ha pw.1) (ite_y (in1_y hb0 pw.1) ⟨MR_1 hb, fun _ => ite_y (in_y (n := 3) (by omega) (by decide)) ?_, fun z => absurd z hne⟩)⟩
              refine d_keeps (w := w) (sOK_qs hs 0) hb (fun m1 a1 a2 => b_X10_link_82 ?_)
              have p1 : pW m1 w (y_W s w) := a1.1 w hw
              rw [e57, show (8 : Int32) = nI 8 from rfl, show (7 : Int32) = nI 7 from rfl, pk_mul, pk_mul, nI_add, nI_add, nI_add, nI_add, nI_add, cw (show 57 * w + 8 + 7 * a + b < 2 ^ 31 by omega), cw (show 57 * w + 8 + 7 * b + a < 2 ^ 31 by omega), p1.2.2 a b (by omega) (by omega)]
              refine ⟨pk_in (57 * w + 8 + 7 * a + b) 171 (by omega), ?_⟩
              rintro m2 rfl
              refine ⟨pk_in (57 * w + 8 + 7 * b + a) 171 (by omega), K _ (MR_g (G := gJ (y_W s w) a b k) a1 ⟨by rw [rI_n (by omega), rI_n (by omega)]; exact p1.1, fun x hx => by rw [rI_n (by omega), rI_n (by omega)]; exact p1.2.1 x hx, fun x y hx hy => ?_⟩ (fun j hj => by rw [rI_n (by omega), rI_n (by omega)]) (funext fun k => by rw [rI_n (by omega), rI_n (by omega)]) (funext fun k => by rw [rI_n (by omega), rI_n (by omega)]) (funext fun k => by rw [rI_n (by omega), rI_n (by omega)]) (funext fun k => by rw [rI_n (by omega), rI_n (by omega)]) (fun k hk => by rw [rI_n (by omega), rI_n (by omega)])) (fX_trans fX_b (fX_trans (fX_fM a2) (fX_trans fX_r fX_r)))⟩
              show _ = nI (if pr2 a b x y = true then k else gk (y_W s w) x y)
              unfold pr2
              by_cases z1 : x = b ∧ y = a
              · obtain ⟨rfl, rfl⟩ := z1
                rw [rI_s, if_pos (by simp)]
              · by_cases z2 : x = a ∧ y = b
                · obtain ⟨rfl, rfl⟩ := z2
                  rw [rI_n (by omega), rI_s, if_pos (by simp)]
                · rw [rI_n (by omega), rI_n (by omega), if_neg (by simp; omega)]
                  exact p1.2.2 x y hx hy
theorem x_undo {s : Sg} (hs : sOK s) : BX s mX9_undo mX10_undo [] := by
  obtain ⟨W, P, I, KK, T, f, ww, t⟩ := s
  cases P with
  | nil =>
    refine ⟨qs (W, [], I, KK, T, f, ww, t) 5, -1, sOK_qs hs 5, fun g gr e m Q he hc K => ?_, fun g gr e m Q he hm K => ?_⟩
    · obtain ⟨d, rfl⟩ := dn (show 4 ≤ e by omega)
      have h0 : m.1 22 0 = 0 := hc.1.2.1.1
      exact b_X9_undo_0 ⟨fun z => absurd h0 z, fun _ => K _ (CR_t hc) fC_t⟩
    · obtain ⟨d, rfl⟩ := dn (show 1 ≤ e by omega)
      have hb := MR_b hm
      have h0 : (wBegins m).1 810 6 = 0 := hb.2.1.1
      refine b_X10_undo_0 ?_
      rintro m1 rfl
      exact ⟨fun z => absurd h0 z, fun _ => m_no hm K⟩
  | cons p P =>
    obtain ⟨h1, h2, h3, h4, h5, h6⟩ := hs
    have h2 : P.length + 1 ≤ 8 := h2
    obtain ⟨p1, p2⟩ := h3 p List.mem_cons_self
    let s' : Sg := (ugd W p.1 p.2, P, I, KK, T, f, -1, 0)
    have hs' : sOK s' := by
      refine ⟨fun w hw => ?_, by show P.length ≤ 8; omega, fun q hq => h3 q (List.mem_cons_of_mem _ hq), h4, h5, h6⟩
      show gWF (ugd W p.1 p.2 w)
      by_cases z : w = p.1
      · rw [z, ugd_s]; exact p2
      · rw [ugd_n z]; exact h1 w hw
    have hne : ¬ nI (P.length + 1) = 0 := by rw [show (0 : Int32) = nI 0 from rfl, nI_eq (by omega) (by decide)]; omega
    refine ⟨s', nI P.length, hs', fun g gr e m Q he hc K => ?_, fun g gr e m Q he hm K => ?_⟩
    · obtain ⟨d, rfl⟩ := dn (show 4 ≤ e by omega)
      obtain ⟨⟨a1, ⟨a2, a, a3, a4, a5⟩, a6, ⟨a7, a7b, R, r1, r2⟩, a8, a9, a10, a11⟩, b1⟩ := hc
      have a2 : m.1 22 0 = nI (P.length + 1) := a2
      obtain ⟨u1, u2⟩ := a5 0 p rfl
      rw [Nat.sub_zero] at u1 u2
      have hs7 : (a + 7) % 8 < 8 := Nat.mod_lt _ (by decide)
      refine b_X9_undo_0 ⟨fun _ => ?_, fun z => absurd z (by rw [a2]; exact hne)⟩
      refine b_X4_bringBack_0 ?_
      intro m1 e1 m2 e2
      rw [a4, i_gnir a a3] at e1
      have r0 : m1.1 22 0 = nI (P.length + 1) := by rw [e1, rI_n (by omega)]; exact a2
      rw [r0, show (1 : Int32) = nI 1 from rfl, pk_sub (by omega)] at e2
      have f2 : fz 22 23 m m2 := fz_trans (fz_eI e1) (fz_eI e2)
      have r1' : m2.1 22 1 = nI ((a + 7) % 8) := by rw [e2, rI_n (by omega), e1, rI_s]
      have r0' : m2.1 22 0 = nI P.length := by rw [e2, rI_s]; rfl
      rw [r1', cw (show (a + 7) % 8 < 2 ^ 31 by omega), fz_1 f2 (by omega), u1, cw (show p.1 < 2 ^ 31 by omega)]
      refine ⟨pk_in ((a + 7) % 8) 8 hs7, pk_in p.1 3 p1, ?_⟩
      refine k_take (s272 p1) (e_24 _ hs7).2 (by omega) (by omega) (pG_fz u2 f2 (by omega)) (fun m3 c1 c2 => b_X4_bringBack_49 (b_X9_undo_27 ?_))
      have hw3 : p.1 = 0 ∨ p.1 = 1 ∨ p.1 = 2 := by omega
      have q : ∀ x k, x ≠ 22 → (x < 272 + 140 * p.1 ∨ 287 + 140 * p.1 ≤ x) → m3.1 x k = m.1 x k := fun x k y1 y2 => by rw [fz_1 c2 (by omega), fz_1 f2 (by omega)]
      have qf : ∀ x, x ≠ 22 → (x < 272 + 140 * p.1 ∨ 287 + 140 * p.1 ≤ x) → m3.1 x = m.1 x := fun x y1 y2 => funext fun k => q x k y1 y2
      have qL : ∀ x, x ≠ 22 → (x < 272 + 140 * p.1 ∨ 287 + 140 * p.1 ≤ x) → m3.2 x = m.2 x := fun x y1 y2 => by rw [(c2 x (by omega)).2, (f2 x (by omega)).2]
      have r0'' : m3.1 22 0 = nI P.length := by rw [fz_1 c2 (by omega)]; exact r0'
      rw [r0'']
      have hCC : CC (ugd W p.1 p.2, P, I, KK, T, f, ww, t) m3 := by
        refine ⟨fun x hx => ?_, ⟨r0'', (a + 7) % 8, hs7, by rw [fz_1 c2 (by omega)]; exact r1', fun i q' hq => ?_⟩, fun i hi => ⟨by rw [q _ _ (by omega) (by omega)]; exact (a6 i hi).1, fun hk x hx => pG_eq ((a6 i hi).2 hk x hx) fun y y1 y2 => qf y (by omega) (by omega)⟩, ⟨by rw [q _ _ (by omega) (by omega)]; exact a7, rowL_cong a7b (qf _ (by omega) (by omega)), R, r1, pG_eq r2 fun y y1 y2 => qf y (by omega) (by omega)⟩, by rw [q _ _ (by omega) (by omega)]; exact a8, fun z => by rw [q _ _ (by omega) (by omega)]; exact a9 z, a10, by rw [q _ _ (by omega) (by omega)]; exact a11⟩
        · show pG m3 (272 + 140 * x) (ugd W p.1 p.2 x)
          by_cases z : x = p.1
          · rw [z, ugd_s]; exact c1
          · rw [ugd_n z]
            refine pG_eq (a1 x hx) fun y y1 y2 => qf y (by omega) ?_
            have : x = 0 ∨ x = 1 ∨ x = 2 := by omega
            omega
        · have hq : (p :: P)[i + 1]? = some q' := hq
          obtain ⟨v1, v2⟩ := a5 (i + 1) q' hq
          have hi7 : i < P.length := by
            rcases Nat.lt_or_ge i P.length with z | z
            · exact z
            · have hq2 : P[i]? = some q' := hq
              rw [List.getElem?_eq_none z] at hq2; cases hq2
          have ea : ((a + 7) % 8 + 7 - i) % 8 = (a + 7 - (i + 1)) % 8 := by omega
          rw [ea]
          exact ⟨by rw [q _ _ (by omega) (by omega)]; exact v1, pG_eq v2 fun y y1 y2 => qf y (by omega) (by omega)⟩
      have hCR : CR (ugd W p.1 p.2, P, I, KK, T, f, ww, t) m3 := ⟨hCC, CS_eq b1 fun x hx => ⟨qf x (by omega) (by omega), qL x (by omega) (by omega)⟩⟩
      exact K _ (CR_t (t := 0) hCR) (fC_trans (fun x hx => ⟨qf x (by omega) (by omega), qL x (by omega) (by omega)⟩) fC_t)
    · obtain ⟨d, rfl⟩ := dn (show 1 ≤ e by omega)
      have hb := MR_b hm
      have hb0 := hb
      obtain ⟨a1, ⟨a2, a3⟩, a4, a5, a6, a7, a8⟩ := hb
      have a2 : (wBegins m).1 810 6 = nI (P.length + 1) := a2
      refine b_X10_undo_0 ?_
      rintro m1 rfl
      refine ⟨fun _ => ⟨MR_1 hb0, ?_⟩, fun z => absurd z (by rw [a2]; exact hne)⟩
      rw [a2, show (1 : Int32) = nI 1 from rfl, pk_sub (by omega), show P.length + 1 - 1 = P.length from rfl]
      have f1 : fM [6] [] (wBegins m) (wI (wBegins m) 810 6 (nI P.length)) := fM_f
      refine up_to (n := 171) (P := fun k => ∀ m', m'.1 810 6 = nI P.length → (∀ j, j < k → m'.1 811 j = (wBegins m).1 812 (171 * P.length + j)) → fM [6] [811] (wBegins m) m' → WP g gr (d + 1) mX10_undo 0 0 38 [.ref 810, .int (nI k)] [] (mk m') Q) ?_ ?_ 0 (Nat.zero_le _) _ rI_s (fun j hj => absurd hj (Nat.not_lt_zero _)) (fM_mono f1)
      · intro m' b1 b2 b3
        refine b_X10_undo_38 (pk_le 171 171 (fun _ => ?_) (fun z => absurd z (Nat.lt_irrefl _)))
        rw [b1]
        refine K m' ⟨fun x hx => ?_, ⟨b1, fun i hi x hx => ?_⟩, fun i hi => ⟨by rw [fM_1 b3]; exact (a4 i hi).1, fun hk x hx => pR_eq ((a4 i hi).2 hk x hx) (b3.1 813 (by decide) (by decide))⟩, ⟨by rw [fM_2 b3]; exact a5.1, rowL_cong a5.2 (b3.1 815 (by decide) (by decide))⟩, by rw [fM_2 b3]; exact a6, by rw [fM_2 b3]; exact a7, by rw [fM_2 b3]; exact a8⟩ (fX_trans fX_b (fX_fM b3))
        · have h0 := a3 0 (by show 0 < P.length + 1; omega) x hx
          have h0 : pR (wBegins m) 812 (171 * (P.length + 1 - 1 - 0) + 57 * x) (unw (ugd W p.1 p.2) P 0 x) := h0
          rw [unw_0, show P.length + 1 - 1 - 0 = P.length from rfl] at h0
          refine pR_copy (r' := 811) (o' := 57 * x) h0 fun k hk => ?_
          rw [b2 _ (by omega), Nat.add_assoc]
        · have hi : i < P.length := hi
          have h0 := a3 (i + 1) (by show i + 1 < P.length + 1; omega) x hx
          have h0 : pR (wBegins m) 812 (171 * (P.length + 1 - 1 - (i + 1)) + 57 * x) (unw (ugd W p.1 p.2) P (i + 1) x) := h0
          rw [show P.length + 1 - 1 - (i + 1) = P.length - 1 - i by omega] at h0
          exact pR_eq h0 (b3.1 812 (by decide) (by decide))
      · intro k hk ih m' b1 b2 b3
        refine b_X10_undo_38 (pk_le 171 k (fun z => by omega) (fun _ => ?_))
        rw [b1, show (171 : Int32) = nI 171 from rfl, pk_mul, nI_add, cw (show 171 * P.length + k < 2 ^ 31 by omega), cw (show k < 2 ^ 31 by omega), fM_1 b3 (a := 812), nI_1]
        refine ⟨pk_in (171 * P.length + k) 1368 (by omega), pk_in k 171 hk, ih _ (by rw [rI_n (by omega)]; exact b1) (fun j hj => ?_) (fM_trans b3 fM_r)⟩
        by_cases z : j = k
        · subst z; exact rI_s
        · rw [rI_n (fun q => z q.2)]; exact b2 j (by omega)
end ZAc
