/-! questions: set apart, degrees, less, cards, bases -/
section ZAs
theorem x_apart {s : Sg} (hs : sOK s) (l1 l2 l3 : Int32) : BX s mX9_apart mX10_apart [.int l1, .int l2, .int l3] := by
  rcases i_case l1 3 (by decide) with h | ⟨w, hw, rfl⟩
  · refine ⟨qs s 1, -1, sOK_qs hs 1, fun g gr e m Q he hc K => ?_, fun g gr e m Q he hm K => ?_⟩
    · obtain ⟨d, rfl⟩ := dn (show 5 ≤ e by omega)
      exact b_X9_apart_0 (rg_n h (K _ (CR_t hc) fC_t))
    · obtain ⟨d, rfl⟩ := dn (show 5 ≤ e by omega)
      refine b_X10_apart_0 ?_
      rintro m1 rfl
      exact ite_n (isG_n h) (m_no hm K)
  · have hG := hs.1 w hw
    have h7 := hG.2.1.2
    have hst := st_cwf hG
    have hq7 := cwf_le hst
    have htl := tg_le (st (y_W s w)).1 (gn (y_W s w)) (st (y_W s w)).2.1
    rcases i_case l2 (gn (y_W s w)) (by omega) with h2 | ⟨v, hv, rfl⟩
    · refine ⟨qs s 1, -1, sOK_qs hs 1, fun g gr e m Q he hc K => ?_, fun g gr e m Q he hm K => ?_⟩
      · obtain ⟨d, rfl⟩ := dn (show 5 ≤ e by omega)
        refine b_X9_apart_0 (rg_y hw ⟨pk_in w 3 hw, ?_⟩)
        rw [cw (by omega)]
        exact ite_n (has_n h2 (W_n hc hw)) (K _ (CR_t hc) fC_t)
      · obtain ⟨d, rfl⟩ := dn (show 5 ≤ e by omega)
        refine b_X10_apart_0 ?_
        rintro m1 rfl
        refine ite_y (isG_y hw) ?_
        rw [e57, c57 hw]
        exact ⟨v57 hw, ite_n (in1_n h2 ((MR_b hm).1 w hw).1) (m_no hm K)⟩
    · rcases i_case l3 2 (by decide) with h3 | ⟨k, hk, rfl⟩
      · refine ⟨qs s 1, -1, sOK_qs hs 1, fun g gr e m Q he hc K => ?_, fun g gr e m Q he hm K => ?_⟩
        · obtain ⟨d, rfl⟩ := dn (show 5 ≤ e by omega)
          refine b_X9_apart_0 (rg_y hw ⟨pk_in w 3 hw, ?_⟩)
          rw [cw (show w < 2 ^ 31 by omega)]
          exact ite_y (has_y hv (W_n hc hw)) (rh_n (n := 1) h3 (K _ (CR_t hc) fC_t))
        · obtain ⟨d, rfl⟩ := dn (show 5 ≤ e by omega)
          refine b_X10_apart_0 ?_
          rintro m1 rfl
          refine ite_y (isG_y hw) ?_
          rw [e57, c57 hw]
          exact ⟨v57 hw, ite_y (in1_y hv ((MR_b hm).1 w hw).1) (ite_n (in_n (n := 1) (by decide) h3) (m_no hm K))⟩
      · have cls : ∀ (g : zG) (gr : Bool) (d : Nat) (m : zm) (Q : Option Value → zH → Prop), CR s m → (∀ m', CR s m' → fC m m' → pC m' 147 (gn (y_W s w)) (st (y_W s w)).1 (st (y_W s w)).2.1 → WP g gr (d + 5) mX9_apart 0 0 52 [.ref 1, .retAddr 0, .int (nI v), .int (nI k), .ref (272 + 140 * w)] [.int (nI (tgm (st (y_W s w)).1 (gn (y_W s w)) (st (y_W s w)).2.1))] (mk m') Q) → Ok g gr (d + 5) mX9_apart 0 0 [.ref 1, .int (nI w), .int (nI v), .int (nI k)] (mk m) Q := by
          intro g gr d m Q hc HH
          refine b_X9_apart_0 (rg_y hw ⟨pk_in w 3 hw, ?_⟩)
          rw [cw (show w < 2 ^ 31 by omega)]
          refine ite_y (has_y hv (W_n hc hw)) (rh_y (n := 1) hk ?_)
          refine k_begin a_147 (s272 hw) (by omega) hG (hc.1.1 w hw) (by omega) (fun m1 a1 _ a4 => b_X9_apart_45 (s272 hw) ?_)
          exact k_target a_147 (by omega) h7 a1 (by omega) (HH m1 (CR_fz hc a4 (by omega)) (fC_fz a4 (by omega)) a1)
        have mdl : ∀ (g : zG) (gr : Bool) (d : Nat) (m : zm) (Q : Option Value → zH → Prop), MR s m → (∀ m', MR (qs s 0) m' → fX m m' → pD m' (y_W s w) → pE m' (gn (y_W s w)) (st (y_W s w)).1 (st (y_W s w)).2.1 → WP g gr (d + 5) mX10_apart 0 0 51 [.ref 810, .retAddr 0, .int (nI v), .int (nI k), .retAddr 0, .retAddr 0] [.int (tgv (st (y_W s w)).1 (gn (y_W s w)) (st (y_W s w)).2.1)] (mk m') Q) → Ok g gr (d + 5) mX10_apart 0 0 [.ref 810, .int (nI w), .int (nI v), .int (nI k)] (mk m) Q := by
          intro g gr d m Q hm HH
          have hb := MR_b hm
          refine b_X10_apart_0 ?_
          rintro m1 rfl
          refine ite_y (isG_y hw) ?_
          rw [e57, c57 hw]
          refine ⟨v57 hw, ite_y (in1_y hv (hb.1 w hw).1) (ite_y (in_y (n := 1) (by omega) (by decide)) ⟨MR_1 hb, ?_⟩)⟩
          refine d_lays (by omega) hG hw (hb.1 w hw) (fun m2 a1 a2 => b_X10_apart_42 (d_starts (by omega) hG a1 (fun m3 b1 b2 => b_X10_apart_46 ?_)))
          exact d_targetCell (by omega) h7 (pD_fM a1 b2).1 b1 hst (HH m3 (MR_fM (MR_fM hb a2) b2) (fX_trans fX_b (fX_trans (fX_fM a2) (fX_fM b2))) (pD_fM a1 b2) b1)
        by_cases hin : tg (st (y_W s w)).1 (gn (y_W s w)) (st (y_W s w)).2.1 ≠ 0 ∧ (st (y_W s w)).1 v + 1 = tg (st (y_W s w)).1 (gn (y_W s w)) (st (y_W s w)).2.1
        · obtain ⟨h0, hcv⟩ := hin
          have hcz := cz_tg h0 hcv
          have hap := ap_cwf hst hv hcz
          obtain ⟨n1, n2, n3, n4, n5⟩ := nx_all hG hst hv h0 hcv
          have hpa : pa (st (y_W s w)).1 (gn (y_W s w)) v = ap (st (y_W s w)).1 v := by unfold pa; rw [if_pos hcz]
          have hpq : paq (st (y_W s w)).1 (gn (y_W s w)) v (st (y_W s w)).2.1 = (st (y_W s w)).2.1 + 1 := by unfold paq; rw [if_pos hcz]
          have cls2 : ∀ (g : zG) (gr : Bool) (d : Nat) (m : zm) (Q : Option Value → zH → Prop), CR s m → (∀ m', CR s m' → fC m m' → pC m' 147 (gn (y_W s w)) (nx (y_W s w) (st (y_W s w)).1 (st (y_W s w)).2.1 v).1 (nx (y_W s w) (st (y_W s w)).1 (st (y_W s w)).2.1 v).2.1 → m'.1 147 1 = nI (nx (y_W s w) (st (y_W s w)).1 (st (y_W s w)).2.1 v).2.2 → WP g gr (d + 5) mX9_apart 0 0 82 [.ref 1, .retAddr 0, .retAddr 0, .int (nI k), .retAddr 0] [] (mk m') Q) → Ok g gr (d + 5) mX9_apart 0 0 [.ref 1, .int (nI w), .int (nI v), .int (nI k)] (mk m) Q := by
            intro g gr d m Q hc HH
            refine cls g gr d m Q hc (fun m' a1 a2 a3 => b_X9_apart_52 (s272 hw) ?_)
            rw [i_in (by have := tgm_lt (c := (st (y_W s w)).1) (n := gn (y_W s w)) (q := (st (y_W s w)).2.1) h7; omega) (by omega)]
            refine ite_y ((tgm_bit hv).mpr ⟨h0, hcv⟩) ?_
            refine k_putAhead a_147 (by omega) h7 a3 hst hv (fun m5 g1 g2 g3 => b_X9_apart_73 (s272 hw) ?_)
            rw [hpa, hpq] at g1
            have c5 := CR_fz a1 g3 (by omega)
            exact k_refine a_147 (s272 hw) (by omega) hG (c5.1.1 w hw) (by omega) hap (by omega) g1 (fun m6 r1 r2 r3 => HH m6 (CR_fz c5 r3 (by omega)) (fC_trans a2 (fC_trans (fC_fz g3 (by omega)) (fC_fz r3 (by omega)))) r1 r2)
          have mdl2 : ∀ (g : zG) (gr : Bool) (d : Nat) (m : zm) (Q : Option Value → zH → Prop), MR s m → (∀ m', MR (qs s 0) m' → fX m m' → pD m' (y_W s w) → pE m' (gn (y_W s w)) (nx (y_W s w) (st (y_W s w)).1 (st (y_W s w)).2.1 v).1 (nx (y_W s w) (st (y_W s w)).1 (st (y_W s w)).2.1 v).2.1 → WP g gr (d + 5) mX10_apart 0 0 94 [.ref 810, .retAddr 0, .retAddr 0, .int (nI k), .retAddr 0, .retAddr 0] [.int (nI (nx (y_W s w) (st (y_W s w)).1 (st (y_W s w)).2.1 v).2.2)] (mk m') Q) → Ok g gr (d + 5) mX10_apart 0 0 [.ref 810, .int (nI w), .int (nI v), .int (nI k)] (mk m) Q := by
            intro g gr d m Q hm HH
            refine mdl g gr d m Q hm (fun m' a1 a2 a3 a4 => b_X10_apart_51 ⟨fun z => absurd ((tgv_0 (by omega)).mp z) h0, fun _ => ⟨pk_in v 7 (by omega), ?_⟩⟩)
            have hcv7 := hst.1 v hv
            rw [cw (by omega), a4.1 v hv, tgv_n h0]
            refine ite_y (congrArg nI (by omega)) ⟨MR_1 a1, ?_⟩
            refine d_setsApart h7 a3.1 a4 (fun x hx => by have := hst.1 x hx; omega) hv (fun m5 b1 b2 => b_X10_apart_90 ?_)
            exact d_refines (by omega) hG (pD_fM a3 b2) b1 hap (by omega) (fun m6 c1 c2 => HH m6 (MR_fM (MR_fM a1 b2) c2) (fX_trans a2 (fX_trans (fX_fM b2) (fX_fM c2))) (pD_fM (pD_fM a3 b2) c2) c1)
          rcases (show k = 0 ∨ k = 1 by omega) with rfl | rfl
          · refine ⟨qs s 0, nI (nx (y_W s w) (st (y_W s w)).1 (st (y_W s w)).2.1 v).2.1, sOK_qs hs 0, fun g gr e m Q he hc K => ?_, fun g gr e m Q he hm K => ?_⟩
            · obtain ⟨d, rfl⟩ := dn (show 5 ≤ e by omega)
              refine cls2 g gr d m Q hc (fun m' a1 a2 a3 a4 => b_X9_apart_82 ⟨fun z => absurd rfl z, fun _ => ?_⟩)
              rw [a3.1]
              exact K _ (CR_t a1) (fC_trans a2 fC_t)
            · obtain ⟨d, rfl⟩ := dn (show 5 ≤ e by omega)
              refine mdl2 g gr d m Q hm (fun m' a1 a2 a3 a4 => b_X10_apart_94 ⟨fun z => absurd rfl z, fun _ => ?_⟩)
              rw [a4.2]
              exact K _ a1 a2
          · refine ⟨qs s 0, nI (mrk (nx (y_W s w) (st (y_W s w)).1 (st (y_W s w)).2.1 v).1 (gn (y_W s w)) (nx (y_W s w) (st (y_W s w)).1 (st (y_W s w)).2.1 v).2.1 (nx (y_W s w) (st (y_W s w)).1 (st (y_W s w)).2.1 v).2.2), sOK_qs hs 0, fun g gr e m Q he hc K => ?_, fun g gr e m Q he hm K => ?_⟩
            · obtain ⟨d, rfl⟩ := dn (show 5 ≤ e by omega)
              refine cls2 g gr d m Q hc (fun m' a1 a2 a3 a4 => b_X9_apart_82 ⟨fun _ => ?_, fun z => absurd z (by decide)⟩)
              exact k_mark a_147 (by omega) h7 a3 (by omega) a4 (b_X9_apart_104 (K _ (CR_t a1) (fC_trans a2 fC_t)))
            · obtain ⟨d, rfl⟩ := dn (show 5 ≤ e by omega)
              refine mdl2 g gr d m Q hm (fun m' a1 a2 a3 a4 => b_X10_apart_94 ⟨fun _ => ?_, fun z => absurd z (by decide)⟩)
              exact d_markOf (by omega) h7 a3.1 a4 n1 (b_X10_apart_113 (K _ a1 a2))
        · refine ⟨qs s 5, -1, sOK_qs hs 5, fun g gr e m Q he hc K => ?_, fun g gr e m Q he hm K => ?_⟩
          · obtain ⟨d, rfl⟩ := dn (show 5 ≤ e by omega)
            refine cls g gr d m Q hc (fun m' a1 a2 a3 => b_X9_apart_52 (s272 hw) ?_)
            rw [i_in (by have := tgm_lt (c := (st (y_W s w)).1) (n := gn (y_W s w)) (q := (st (y_W s w)).2.1) h7; omega) (by omega)]
            exact ite_n (fun z => hin ((tgm_bit hv).mp z)) (K _ (CR_t a1) (fC_trans a2 fC_t))
          · obtain ⟨d, rfl⟩ := dn (show 5 ≤ e by omega)
            refine mdl g gr d m Q hm (fun m' a1 a2 a3 a4 => b_X10_apart_51 ⟨fun z => m_no2 a1 a2 K, fun z => ⟨pk_in v 7 (by omega), ?_⟩⟩)
            have h0 : tg (st (y_W s w)).1 (gn (y_W s w)) (st (y_W s w)).2.1 ≠ 0 := fun y => z ((tgv_0 (by omega)).mpr y)
            have hcv7 := hst.1 v hv
            rw [cw (by omega), a4.1 v hv, tgv_n h0]
            exact ite_n (fun y => hin ⟨h0, by have := (nI_eq (by omega) (by omega)).mp y; omega⟩) (m_no2 a1 a2 K)
theorem x_degree {s : Sg} (hs : sOK s) (l1 l2 l3 : Int32) : BX s mX9_degree mX10_degree [.int l1, .int l2, .int l3] := by
  rcases i_case l1 3 (by decide) with h | ⟨w, hw, rfl⟩
  · refine ⟨qs s 1, -1, sOK_qs hs 1, fun g gr e m Q he hc K => ?_, fun g gr e m Q he hm K => ?_⟩
    · obtain ⟨d, rfl⟩ := dn (show 1 ≤ e by omega)
      exact b_X9_degree_0 (rg_n h (K _ (CR_t hc) fC_t))
    · obtain ⟨d, rfl⟩ := dn (show 3 ≤ e by omega)
      refine b_X10_degree_0 ?_
      rintro m1 rfl
      exact ite_n (isG_n h) (m_no hm K)
  · have hG := hs.1 w hw
    have h7 := hG.2.1.2
    rcases i_case l2 (gn (y_W s w)) (by omega) with h2 | ⟨v, hv, rfl⟩
    · refine ⟨qs s 1, -1, sOK_qs hs 1, fun g gr e m Q he hc K => ?_, fun g gr e m Q he hm K => ?_⟩
      · obtain ⟨d, rfl⟩ := dn (show 1 ≤ e by omega)
        refine b_X9_degree_0 (rg_y hw ⟨pk_in w 3 hw, ?_⟩)
        rw [cw (by omega)]
        exact ite_n (has_n h2 (W_n hc hw)) (K _ (CR_t hc) fC_t)
      · obtain ⟨d, rfl⟩ := dn (show 3 ≤ e by omega)
        refine b_X10_degree_0 ?_
        rintro m1 rfl
        refine ite_y (isG_y hw) ?_
        rw [e57, c57 hw]
        exact ⟨v57 hw, ite_n (in1_n h2 ((MR_b hm).1 w hw).1) (m_no hm K)⟩
    · rcases i_case l3 4 (by decide) with h3 | ⟨k, hk, rfl⟩
      · refine ⟨qs s 2, -1, sOK_qs hs 2, fun g gr e m Q he hc K => ?_, fun g gr e m Q he hm K => ?_⟩
        · obtain ⟨d, rfl⟩ := dn (show 1 ≤ e by omega)
          refine b_X9_degree_0 (rg_y hw ⟨pk_in w 3 hw, ?_⟩)
          rw [cw (show w < 2 ^ 31 by omega)]
          exact ite_y (has_y hv (W_n hc hw)) (rl_n (n := 4) h3 (K _ (CR_t hc) fC_t))
        · obtain ⟨d, rfl⟩ := dn (show 3 ≤ e by omega)
          refine b_X10_degree_0 ?_
          rintro m1 rfl
          refine ite_y (isG_y hw) ?_
          rw [e57, c57 hw]
          exact ⟨v57 hw, ite_y (in1_y hv ((MR_b hm).1 w hw).1) ⟨MR_1 (MR_b hm), ite_n (in_n (n := 3) (by decide) h3) (m_no hm K).2⟩⟩
      · refine ⟨qs s 0, nI (fb_ct (fun b => lk k (gk (y_W s w) v b)) (gn (y_W s w))), sOK_qs hs 0, fun g gr e m Q he hc K => ?_, fun g gr e m Q he hm K => ?_⟩
        · obtain ⟨d, rfl⟩ := dn (show 1 ≤ e by omega)
          refine b_X9_degree_0 (rg_y hw ⟨pk_in w 3 hw, ?_⟩)
          rw [cw (show w < 2 ^ 31 by omega)]
          refine ite_y (has_y hv (W_n hc hw)) (rl_y (n := 4) hk ⟨pk_in k 4 hk, pk_in v 7 (by omega), ?_⟩)
          rw [cw (show k < 2 ^ 31 by omega), cw (show v < 2 ^ 31 by omega), (hc.1.1 w hw).2.2.2 k v hk (by omega), i_bm (by decide), lk_n hG]
          exact K _ (CR_t hc) fC_t
        · obtain ⟨d, rfl⟩ := dn (show 3 ≤ e by omega)
          have hb := MR_b hm
          have hp : pW (wBegins m) w (y_W s w) := hb.1 w hw
          refine b_X10_degree_0 ?_
          rintro m1 rfl
          refine ite_y (isG_y hw) ?_
          rw [e57, c57 hw]
          refine ⟨v57 hw, ite_y (in1_y hv hp.1) ⟨MR_1 hb, ite_y (in_y (n := 3) (by omega) (by decide)) ?_⟩⟩
          refine up_to (n := gn (y_W s w)) (P := fun b => WP g gr (d + 3) mX10_degree 0 0 56 [.ref 810, .int (nI w), .int (nI v), .int (nI k), .int (nI (fb_ct (fun b => lk k (gk (y_W s w) v b)) b)), .int (nI b), .retAddr 0] [] (mk (wBegins m)) Q) ?_ (fun b hbn ih => ?_) 0 (Nat.zero_le _)
          · refine b_X10_degree_56 ?_
            rw [e57, c57 hw]
            exact ⟨v57 hw, pk_le (gn (y_W s w)) (gn (y_W s w)) (fun _ => K _ hb fX_b) (fun z => absurd z (Nat.lt_irrefl _)) hp.1⟩
          · refine b_X10_degree_56 ?_
            rw [e57, c57 hw]
            refine ⟨v57 hw, pk_le (gn (y_W s w)) b (fun z => by omega) (fun _ => ?_) hp.1⟩
            have hk3 := hG.1.2.1 v b
            have es : fb_ct (fun b => lk k (gk (y_W s w) v b)) (b + 1) = fb_ct (fun b => lk k (gk (y_W s w) v b)) b + (if lk k (gk (y_W s w) v b) = true then 1 else 0) := fb_ct_succ _ _
            have yes : lk k (gk (y_W s w) v b) = true → WP g gr (d + 3) mX10_degree 0 0 56 [.ref 810, .int (nI w), .int (nI v), .int (nI k), .int (nI (fb_ct (fun b => lk k (gk (y_W s w) v b)) b + 1)), .int (nI (b + 1)), .retAddr 0] [] (mk (wBegins m)) Q := fun z => by
              rw [es, if_pos z] at ih; exact ih
            have no : lk k (gk (y_W s w) v b) = false → WP g gr (d + 3) mX10_degree 0 0 56 [.ref 810, .int (nI w), .int (nI v), .int (nI k), .int (nI (fb_ct (fun b => lk k (gk (y_W s w) v b)) b)), .int (nI (b + 1)), .retAddr 0] [] (mk (wBegins m)) Q := fun z => by
              rw [es, if_neg (by rw [z]; decide)] at ih; exact ih
            rw [show (8 : Int32) = nI 8 from rfl, show (7 : Int32) = nI 7 from rfl, pk_mul, nI_add, nI_add, nI_add, cw (show 57 * w + 8 + 7 * v + b < 2 ^ 31 by omega), hp.2.2 v b (by omega) (by omega), show (0 : Int32) = nI 0 from rfl, nI_eq (by omega) (by decide), nI_eq (show k < 2 ^ 31 by omega) (by decide), nI_eq (by omega) (show k < 2 ^ 31 by omega), nI_add, nI_1, nI_1]
            refine ⟨pk_in (57 * w + 8 + 7 * v + b) 171 (by omega), fun z => no ?_, fun z => ⟨fun z2 => yes ?_, fun z2 => ⟨fun z3 => no ?_, fun z3 => yes ?_⟩⟩⟩
            · unfold lk
              by_cases y : k = 0
              · rw [if_pos y, bq_t z]; rfl
              · rw [if_neg y, z]; exact bq_f (fun x => y x.symm)
            · unfold lk
              rw [if_pos z2, bq_f z]; rfl
            · unfold lk
              rw [if_neg z2]; exact bq_f z3
            · unfold lk
              rw [if_neg z2]; exact bq_t z3
end ZAs
