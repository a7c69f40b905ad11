/-! questions on trees, searches, names -/
section ZAs
variable {g : zG} {gr : Bool} {e : Nat} {m : zm} {Q : Option Value → zH → Prop}
theorem s347 {w : Nat} (hw : w < 3) : sX6 (347 + 140 * w) := (e_4 w hw).2
theorem s287 {w : Nat} (hw : w < 3) : sX7 (287 + 140 * w) := (e_3 w hw).2
theorem c_search {s : Sg} {w : Nat} (he : 14 ≤ e) (hs : sOK s) (hw : w < 3) (hc : CR s m) (K : ∀ m', CR s m' → fC m m' → pSS m' (347 + 140 * w) (gn (y_W s w)) (srch (y_W s w)) → Q (some (.ref (347 + 140 * w))) (mk m')) : Ok g gr e mX9_searchOf 0 0 [.ref 1, .int (nI w)] (mk m) Q := by
  obtain ⟨d, rfl⟩ := dn he
  refine b_X9_searchOf_0 ⟨pk_in w 3 hw, ?_⟩
  rw [cw (by omega)]
  refine k_look6 (s347 hw) (s272 hw) (by omega) (hs.1 w hw) (hc.1.1 w hw) (by omega) (hc.2.2.1 w hw) (fun m' a1 a2 a3 a4 => b_X9_searchOf_17 (s347 hw) (K m' ⟨CC_fQ hc.1 (fQ_fzw a4 hw (by omega)), ?_⟩ (fC_fz a4 (by omega)) a3))
  refine ⟨fun x hx => seen7_eq (hc.2.1 x hx) fun a h1 h2 => a4 a ?_, fun x hx => ?_, seen6_eq hc.2.2.2 fun a h1 h2 => a4 a (by omega)⟩
  · have : w = 0 ∨ w = 1 ∨ w = 2 := by omega
    have : x = 0 ∨ x = 1 ∨ x = 2 := by omega
    omega
  · by_cases z : x = w
    · subst z; exact Or.inr ⟨a1, _, hs.1 x hx, a2, a3⟩
    · refine seen6_eq (hc.2.2.1 x hx) fun a h1 h2 => a4 a ?_
      have : w = 0 ∨ w = 1 ∨ w = 2 := by omega
      have : x = 0 ∨ x = 1 ∨ x = 2 := by omega
      omega
theorem c_tree {s : Sg} {w : Nat} (he : 13 ≤ e) (hs : sOK s) (hw : w < 3) (hc : CR s m) (K : ∀ m', CR s m' → fC m m' → pTS m' (287 + 140 * w) (gn (y_W s w)) (tree (y_W s w)) → m'.1 (287 + 140 * w + 22) 0 = nI (ms0 (y_W s w) 0) → Q none (mk m')) : Ok g gr e mX8_look 0 0 [.ref (287 + 140 * w), .ref (272 + 140 * w)] (mk m) Q := by
  refine k_look7 (s287 hw) (s272 hw) he (hs.1 w hw) (hc.1.1 w hw) (by omega) (hc.2.1 w hw) (fun m' a1 a2 a3 a5 a4 => K m' ⟨CC_fQ hc.1 (fQ_fzw a4 hw (by omega)), ?_⟩ (fC_fz a4 (by omega)) a3 a5)
  refine ⟨fun x hx => ?_, fun x hx => seen6_eq (hc.2.2.1 x hx) fun a h1 h2 => a4 a ?_, seen6_eq hc.2.2.2 fun a h1 h2 => a4 a (by omega)⟩
  · by_cases z : x = w
    · subst z; exact Or.inr ⟨a1, _, hs.1 x hx, a2, a3, a5⟩
    · refine seen7_eq (hc.2.1 x hx) fun a h1 h2 => a4 a ?_
      have : w = 0 ∨ w = 1 ∨ w = 2 := by omega
      have : x = 0 ∨ x = 1 ∨ x = 2 := by omega
      omega
  · have : w = 0 ∨ w = 1 ∨ w = 2 := by omega
    have : x = 0 ∨ x = 1 ∨ x = 2 := by omega
    omega
theorem x_tree {s : Sg} (hs : sOK s) (l1 l2 : Int32) : BX s mX9_tree mX10_tree [.int l1, .int l2] := by
  rcases i_case l1 3 (by decide) with h | ⟨w, hw, rfl⟩
  · refine ⟨qs s 1, -1, sOK_qs hs 1, fun g gr e m Q he hc K => ?_, fun g gr e m Q he hm K => ?_⟩
    · obtain ⟨d, rfl⟩ := dn (show 14 ≤ e by omega)
      exact b_X9_tree_0 (rg_n h (K _ (CR_t hc) fC_t))
    · obtain ⟨d, rfl⟩ := dn (show 14 ≤ e by omega)
      refine b_X10_tree_0 ?_
      rintro m1 rfl
      exact ite_n (isG_n h) (m_no hm K)
  · have hG := hs.1 w hw
    have h7 := hG.2.1.2
    rcases i_case l2 5 (by decide) with h2 | ⟨k, hk, rfl⟩
    · refine ⟨qs s 1, -1, sOK_qs hs 1, fun g gr e m Q he hc K => ?_, fun g gr e m Q he hm K => ?_⟩
      · obtain ⟨d, rfl⟩ := dn (show 14 ≤ e by omega)
        exact b_X9_tree_0 (rg_y hw ⟨pk_in w 3 hw, rh_n (n := 4) h2 (K _ (CR_t hc) fC_t)⟩)
      · obtain ⟨d, rfl⟩ := dn (show 14 ≤ e by omega)
        refine b_X10_tree_0 ?_
        rintro m1 rfl
        exact ite_y (isG_y hw) (ite_n (in_n (n := 4) (by decide) h2) (m_no hm K))
    · have cls : ∀ (g : zG) (gr : Bool) (d : Nat) (m : zm) (Q : Option Value → zH → Prop), CR s m → (∀ m', CR s m' → fC m m' → pTS m' (287 + 140 * w) (gn (y_W s w)) (tree (y_W s w)) → m'.1 (287 + 140 * w + 22) 0 = nI (ms0 (y_W s w) 0) → WP g gr (d + 14) mX9_tree 0 0 39 [.ref 1, .retAddr 0, .int (nI k), .retAddr 0, .ref (287 + 140 * w)] [] (mk m') Q) → Ok g gr (d + 14) mX9_tree 0 0 [.ref 1, .int (nI w), .int (nI k)] (mk m) Q := by
        intro g gr d m Q hc HH
        refine b_X9_tree_0 (rg_y hw ⟨pk_in w 3 hw, rh_y (n := 4) hk ?_⟩)
        rw [cw (by omega)]
        exact c_tree (by omega) hs hw hc HH
      have mdl : ∀ (g : zG) (gr : Bool) (d : Nat) (m : zm) (Q : Option Value → zH → Prop), MR s m → (∀ m', MR (qs s 0) m' → fX m m' → pXT m' (gn (y_W s w)) (tree (y_W s w)) → m'.1 823 0 = nI (ms0 (y_W s w) 0) → WP g gr (d + 14) mX10_tree 0 0 44 [.ref 810, .retAddr 0, .int (nI k)] [] (mk m') Q) → Ok g gr (d + 14) mX10_tree 0 0 [.ref 810, .int (nI w), .int (nI k)] (mk m) Q := by
        intro g gr d m Q hm HH
        have hb := MR_b hm
        refine b_X10_tree_0 ?_
        rintro m1 rfl
        refine ite_y (isG_y hw) (ite_y (in_y (n := 4) (by omega) (by decide)) ⟨MR_1 hb, ?_⟩)
        refine d_lays (by omega) hG hw (hb.1 w hw) (fun m2 a1 a2 => b_X10_tree_40 (d_walksAll (by omega) hG a1 (fun m3 b1 b2 b3 => ?_)))
        exact HH m3 (MR_fM (MR_fM hb a2) b3) (fX_trans fX_b (fX_trans (fX_fM a2) (fX_fM b3))) b1 b2
      rcases (show k = 0 ∨ k = 1 ∨ k = 2 ∨ k = 3 ∨ k = 4 by omega) with rfl | rfl | rfl | rfl | rfl
      · refine ⟨qs s 0, nI (t_n (tree (y_W s w))), sOK_qs hs 0, fun g gr e m Q he hc K => ?_, fun g gr e m Q he hm K => ?_⟩
        · obtain ⟨d, rfl⟩ := dn (show 14 ≤ e by omega)
          refine cls g gr d m Q hc (fun m' a1 a2 a3 a4 => b_X9_tree_39 (s287 hw) ⟨fun _ => ?_, fun z => absurd z (by decide), fun z => absurd z (by decide), fun z => absurd z (by decide), fun z => absurd rfl z.1⟩)
          rw [a3.1]
          exact K _ (CR_t a1) (fC_trans a2 fC_t)
        · obtain ⟨d, rfl⟩ := dn (show 14 ≤ e by omega)
          refine mdl g gr d m Q hm (fun m' a1 a2 a3 a4 => b_X10_tree_44 ⟨fun _ => ?_, fun z => absurd z (by decide), fun z => absurd z (by decide), fun z => absurd z (by decide), fun z => absurd rfl z.1⟩)
          rw [a3.1]
          exact K _ a1 a2
      · refine ⟨qs s 0, nI (t_l (tree (y_W s w))), sOK_qs hs 0, fun g gr e m Q he hc K => ?_, fun g gr e m Q he hm K => ?_⟩
        · obtain ⟨d, rfl⟩ := dn (show 14 ≤ e by omega)
          refine cls g gr d m Q hc (fun m' a1 a2 a3 a4 => b_X9_tree_39 (s287 hw) ⟨fun z => absurd z (by decide), fun _ => ?_, fun z => absurd z (by decide), fun z => absurd z (by decide), fun z => absurd rfl z.2.1⟩)
          rw [a3.2.1]
          exact K _ (CR_t a1) (fC_trans a2 fC_t)
        · obtain ⟨d, rfl⟩ := dn (show 14 ≤ e by omega)
          refine mdl g gr d m Q hm (fun m' a1 a2 a3 a4 => b_X10_tree_44 ⟨fun z => absurd z (by decide), fun _ => ?_, fun z => absurd z (by decide), fun z => absurd z (by decide), fun z => absurd rfl z.2.1⟩)
          rw [a3.2.1]
          exact K _ a1 a2
      · refine ⟨qs s 0, nI (t_d (tree (y_W s w))), sOK_qs hs 0, fun g gr e m Q he hc K => ?_, fun g gr e m Q he hm K => ?_⟩
        · obtain ⟨d, rfl⟩ := dn (show 14 ≤ e by omega)
          refine cls g gr d m Q hc (fun m' a1 a2 a3 a4 => b_X9_tree_39 (s287 hw) ⟨fun z => absurd z (by decide), fun z => absurd z (by decide), fun _ => ?_, fun z => absurd z (by decide), fun z => absurd rfl z.2.2.1⟩)
          rw [a3.2.2.1]
          exact K _ (CR_t a1) (fC_trans a2 fC_t)
        · obtain ⟨d, rfl⟩ := dn (show 14 ≤ e by omega)
          refine mdl g gr d m Q hm (fun m' a1 a2 a3 a4 => b_X10_tree_44 ⟨fun z => absurd z (by decide), fun z => absurd z (by decide), fun _ => ?_, fun z => absurd z (by decide), fun z => absurd rfl z.2.2.1⟩)
          rw [a3.2.2.1]
          exact K _ a1 a2
      · refine ⟨qs s 0, nI (ms0 (y_W s w) 0), sOK_qs hs 0, fun g gr e m Q he hc K => ?_, fun g gr e m Q he hm K => ?_⟩
        · obtain ⟨d, rfl⟩ := dn (show 14 ≤ e by omega)
          refine cls g gr d m Q hc (fun m' a1 a2 a3 a4 => b_X9_tree_39 (s287 hw) ⟨fun z => absurd z (by decide), fun z => absurd z (by decide), fun z => absurd z (by decide), fun _ => ?_, fun z => absurd rfl z.2.2.2⟩)
          rw [a4]
          exact K _ (CR_t a1) (fC_trans a2 fC_t)
        · obtain ⟨d, rfl⟩ := dn (show 14 ≤ e by omega)
          refine mdl g gr d m Q hm (fun m' a1 a2 a3 a4 => b_X10_tree_44 ⟨fun z => absurd z (by decide), fun z => absurd z (by decide), fun z => absurd z (by decide), fun _ => ?_, fun z => absurd rfl z.2.2.2⟩)
          rw [a4]
          exact K _ a1 a2
      · refine ⟨qs s 0, nI (t_k (tree (y_W s w))), sOK_qs hs 0, fun g gr e m Q he hc K => ?_, fun g gr e m Q he hm K => ?_⟩
        · obtain ⟨d, rfl⟩ := dn (show 14 ≤ e by omega)
          refine cls g gr d m Q hc (fun m' a1 a2 a3 a4 => b_X9_tree_39 (s287 hw) ⟨fun z => absurd z (by decide), fun z => absurd z (by decide), fun z => absurd z (by decide), fun z => absurd z (by decide), fun _ => ?_⟩)
          rw [a3.2.2.2.1]
          exact K _ (CR_t a1) (fC_trans a2 fC_t)
        · obtain ⟨d, rfl⟩ := dn (show 14 ≤ e by omega)
          refine mdl g gr d m Q hm (fun m' a1 a2 a3 a4 => b_X10_tree_44 ⟨fun z => absurd z (by decide), fun z => absurd z (by decide), fun z => absurd z (by decide), fun z => absurd z (by decide), fun _ => ?_⟩)
          rw [a3.2.2.2.1]
          exact K _ a1 a2
theorem x_search {s : Sg} (hs : sOK s) (l1 l2 : Int32) : BX s mX9_search mX10_search [.int l1, .int l2] := by
  rcases i_case l1 3 (by decide) with h | ⟨w, hw, rfl⟩
  · refine ⟨qs s 1, -1, sOK_qs hs 1, fun g gr e m Q he hc K => ?_, fun g gr e m Q he hm K => ?_⟩
    · obtain ⟨d, rfl⟩ := dn (show 15 ≤ e by omega)
      exact b_X9_search_0 (rg_n h (K _ (CR_t hc) fC_t))
    · obtain ⟨d, rfl⟩ := dn (show 14 ≤ e by omega)
      refine b_X10_search_0 ?_
      rintro m1 rfl
      exact ite_n (isG_n h) (m_no hm K)
  · have hG := hs.1 w hw
    have h7 := hG.2.1.2
    rcases i_case l2 6 (by decide) with h2 | ⟨k, hk, rfl⟩
    · refine ⟨qs s 1, -1, sOK_qs hs 1, fun g gr e m Q he hc K => ?_, fun g gr e m Q he hm K => ?_⟩
      · obtain ⟨d, rfl⟩ := dn (show 15 ≤ e by omega)
        exact b_X9_search_0 (rg_y hw ⟨pk_in w 3 hw, rh_n (n := 5) h2 (K _ (CR_t hc) fC_t)⟩)
      · obtain ⟨d, rfl⟩ := dn (show 14 ≤ e by omega)
        refine b_X10_search_0 ?_
        rintro m1 rfl
        exact ite_y (isG_y hw) (ite_n (in_n (n := 5) (by decide) h2) (m_no hm K))
    · have cls : ∀ (g : zG) (gr : Bool) (d : Nat) (m : zm) (Q : Option Value → zH → Prop), CR s m → (∀ m', CR s m' → fC m m' → pSS m' (347 + 140 * w) (gn (y_W s w)) (srch (y_W s w)) → WP g gr (d + 15) mX9_search 0 0 30 [.ref 1, .retAddr 0, .int (nI k), .retAddr 0, .retAddr 0] [.ref (347 + 140 * w)] (mk m') Q) → Ok g gr (d + 15) mX9_search 0 0 [.ref 1, .int (nI w), .int (nI k)] (mk m) Q := by
        intro g gr d m Q hc HH
        exact b_X9_search_0 (rg_y hw ⟨pk_in w 3 hw, rh_y (n := 5) hk (c_search (by omega) hs hw hc HH)⟩)
      have mdl : ∀ (g : zG) (gr : Bool) (d : Nat) (m : zm) (Q : Option Value → zH → Prop), MR s m → (∀ m', MR (qs s 0) m' → fX m m' → pXS m' (gn (y_W s w)) (srch (y_W s w)) → WP g gr (d + 14) mX10_search 0 0 44 [.ref 810, .retAddr 0, .int (nI k)] [] (mk m') Q) → Ok g gr (d + 14) mX10_search 0 0 [.ref 810, .int (nI w), .int (nI k)] (mk m) Q := by
        intro g gr d m Q hm HH
        have hb := MR_b hm
        refine b_X10_search_0 ?_
        rintro m1 rfl
        refine ite_y (isG_y hw) (ite_y (in_y (n := 5) (by omega) (by decide)) ⟨MR_1 hb, ?_⟩)
        refine d_lays (by omega) hG hw (hb.1 w hw) (fun m2 a1 a2 => b_X10_search_40 (d_searchesAll (by omega) hG a1 (fun m3 b1 b3 => ?_)))
        exact HH m3 (MR_fM (MR_fM hb a2) b3) (fX_trans fX_b (fX_trans (fX_fM a2) (fX_fM b3))) b1
      rcases (show k = 0 ∨ k = 1 ∨ k = 2 ∨ k = 3 ∨ k = 4 ∨ k = 5 by omega) with rfl | rfl | rfl | rfl | rfl | rfl
      · refine ⟨qs s 0, nI (S_n (srch (y_W s w))), sOK_qs hs 0, fun g gr e m Q he hc K => ?_, fun g gr e m Q he hm K => ?_⟩
        · obtain ⟨d, rfl⟩ := dn (show 15 ≤ e by omega)
          refine cls g gr d m Q hc (fun m' a1 a2 a3 => b_X9_search_30 (s347 hw) ⟨fun _ => ?_, fun z => absurd z (by decide), fun z => absurd z (by decide), fun z => absurd z (by decide), fun z => absurd z (by decide), fun z => absurd rfl z.1⟩)
          rw [a3.1]
          exact K _ (CR_t a1) (fC_trans a2 fC_t)
        · obtain ⟨d, rfl⟩ := dn (show 14 ≤ e by omega)
          refine mdl g gr d m Q hm (fun m' a1 a2 a3 => b_X10_search_44 ⟨fun _ => ?_, fun z => absurd z (by decide), fun z => absurd z (by decide), fun z => absurd z (by decide), fun z => absurd z (by decide), fun z => absurd rfl z.1⟩)
          rw [a3.1]
          exact K _ a1 a2
      · refine ⟨qs s 0, nI (S_l (srch (y_W s w))), sOK_qs hs 0, fun g gr e m Q he hc K => ?_, fun g gr e m Q he hm K => ?_⟩
        · obtain ⟨d, rfl⟩ := dn (show 15 ≤ e by omega)
          refine cls g gr d m Q hc (fun m' a1 a2 a3 => b_X9_search_30 (s347 hw) ⟨fun z => absurd z (by decide), fun _ => ?_, fun z => absurd z (by decide), fun z => absurd z (by decide), fun z => absurd z (by decide), fun z => absurd rfl z.2.1⟩)
          rw [a3.2.1]
          exact K _ (CR_t a1) (fC_trans a2 fC_t)
        · obtain ⟨d, rfl⟩ := dn (show 14 ≤ e by omega)
          refine mdl g gr d m Q hm (fun m' a1 a2 a3 => b_X10_search_44 ⟨fun z => absurd z (by decide), fun _ => ?_, fun z => absurd z (by decide), fun z => absurd z (by decide), fun z => absurd z (by decide), fun z => absurd rfl z.2.1⟩)
          rw [a3.2.1]
          exact K _ a1 a2
      · refine ⟨qs s 0, nI (S_c (srch (y_W s w))), sOK_qs hs 0, fun g gr e m Q he hc K => ?_, fun g gr e m Q he hm K => ?_⟩
        · obtain ⟨d, rfl⟩ := dn (show 15 ≤ e by omega)
          refine cls g gr d m Q hc (fun m' a1 a2 a3 => b_X9_search_30 (s347 hw) ⟨fun z => absurd z (by decide), fun z => absurd z (by decide), fun _ => ?_, fun z => absurd z (by decide), fun z => absurd z (by decide), fun z => absurd rfl z.2.2.1⟩)
          rw [a3.2.2.1]
          exact K _ (CR_t a1) (fC_trans a2 fC_t)
        · obtain ⟨d, rfl⟩ := dn (show 14 ≤ e by omega)
          refine mdl g gr d m Q hm (fun m' a1 a2 a3 => b_X10_search_44 ⟨fun z => absurd z (by decide), fun z => absurd z (by decide), fun _ => ?_, fun z => absurd z (by decide), fun z => absurd z (by decide), fun z => absurd rfl z.2.2.1⟩)
          rw [a3.2.2.1]
          exact K _ a1 a2
      · refine ⟨qs s 0, nI (S_k (srch (y_W s w))), sOK_qs hs 0, fun g gr e m Q he hc K => ?_, fun g gr e m Q he hm K => ?_⟩
        · obtain ⟨d, rfl⟩ := dn (show 15 ≤ e by omega)
          refine cls g gr d m Q hc (fun m' a1 a2 a3 => b_X9_search_30 (s347 hw) ⟨fun z => absurd z (by decide), fun z => absurd z (by decide), fun z => absurd z (by decide), fun _ => ?_, fun z => absurd z (by decide), fun z => absurd rfl z.2.2.2.1⟩)
          rw [a3.2.2.2.1]
          exact K _ (CR_t a1) (fC_trans a2 fC_t)
        · obtain ⟨d, rfl⟩ := dn (show 14 ≤ e by omega)
          refine mdl g gr d m Q hm (fun m' a1 a2 a3 => b_X10_search_44 ⟨fun z => absurd z (by decide), fun z => absurd z (by decide), fun z => absurd z (by decide), fun _ => ?_, fun z => absurd z (by decide), fun z => absurd rfl z.2.2.2.1⟩)
          rw [a3.2.2.2.1]
          exact K _ a1 a2
      · refine ⟨qs s 0, nI ((S_g (srch (y_W s w))).length), sOK_qs hs 0, fun g gr e m Q he hc K => ?_, fun g gr e m Q he hm K => ?_⟩
        · obtain ⟨d, rfl⟩ := dn (show 15 ≤ e by omega)
          refine cls g gr d m Q hc (fun m' a1 a2 a3 => b_X9_search_30 (s347 hw) ⟨fun z => absurd z (by decide), fun z => absurd z (by decide), fun z => absurd z (by decide), fun z => absurd z (by decide), fun _ => ?_, fun z => absurd rfl z.2.2.2.2⟩)
          rw [a3.2.2.2.2.2.1]
          exact K _ (CR_t a1) (fC_trans a2 fC_t)
        · obtain ⟨d, rfl⟩ := dn (show 14 ≤ e by omega)
          refine mdl g gr d m Q hm (fun m' a1 a2 a3 => b_X10_search_44 ⟨fun z => absurd z (by decide), fun z => absurd z (by decide), fun z => absurd z (by decide), fun z => absurd z (by decide), fun _ => ?_, fun z => absurd rfl z.2.2.2.2⟩)
          rw [a3.2.2.2.2.2.1]
          exact K _ a1 a2
      · refine ⟨qs s 0, nI (S_b (srch (y_W s w))), sOK_qs hs 0, fun g gr e m Q he hc K => ?_, fun g gr e m Q he hm K => ?_⟩
        · obtain ⟨d, rfl⟩ := dn (show 15 ≤ e by omega)
          refine cls g gr d m Q hc (fun m' a1 a2 a3 => b_X9_search_30 (s347 hw) ⟨fun z => absurd z (by decide), fun z => absurd z (by decide), fun z => absurd z (by decide), fun z => absurd z (by decide), fun z => absurd z (by decide), fun _ => ?_⟩)
          rw [a3.2.2.2.2.1]
          exact K _ (CR_t a1) (fC_trans a2 fC_t)
        · obtain ⟨d, rfl⟩ := dn (show 14 ≤ e by omega)
          refine mdl g gr d m Q hm (fun m' a1 a2 a3 => b_X10_search_44 ⟨fun z => absurd z (by decide), fun z => absurd z (by decide), fun z => absurd z (by decide), fun z => absurd z (by decide), fun z => absurd z (by decide), fun _ => ?_⟩)
          rw [a3.2.2.2.2.1]
          exact K _ a1 a2
theorem x_name {s : Sg} (hs : sOK s) (l1 l2 : Int32) : BX s mX9_name mX10_name [.int l1, .int l2] := by
  rcases i_case l1 3 (by decide) with h | ⟨w, hw, rfl⟩
  · refine ⟨qs s 1, -1, sOK_qs hs 1, fun g gr e m Q he hc K => ?_, fun g gr e m Q he hm K => ?_⟩
    · obtain ⟨d, rfl⟩ := dn (show 15 ≤ e by omega)
      exact b_X9_name_0 (rg_n h (K _ (CR_t hc) fC_t))
    · obtain ⟨d, rfl⟩ := dn (show 14 ≤ e by omega)
      refine b_X10_name_0 ?_
      rintro m1 rfl
      exact ite_n (isG_n h) (m_no hm K)
  · have hG := hs.1 w hw
    have h7 := hG.2.1.2
    obtain ⟨bs1, bs2, bs3⟩ := best_same hG
    have hcl := (cln_tab (gn (y_W s w)) h7).2
    have hcl1 : 1 ≤ cln (gn (y_W s w)) := by unfold cln; have := hG.2.1.1; omega
    have cls : ∀ (g : zG) (gr : Bool) (d : Nat) (m : zm) (Q : Option Value → zH → Prop), CR s m → (∀ m', CR s m' → fC m m' → pF m' (347 + 140 * w + 21) (gn (y_W s w)) (S_t (srch (y_W s w))) → WP g gr (d + 15) mX9_name 0 0 19 [.ref 1, .retAddr 0, .int l2, .retAddr 0] [.ref (347 + 140 * w)] (mk m') Q) → Ok g gr (d + 15) mX9_name 0 0 [.ref 1, .int (nI w), .int l2] (mk m) Q := by
      intro g gr d m Q hc HH
      exact b_X9_name_0 (rg_y hw ⟨pk_in w 3 hw, c_search (by omega) hs hw hc (fun m' a1 a2 a3 => HH m' a1 a2 (a3.2.2.2.2.2.2.2 bs1).2)⟩)
    have mdl : ∀ (g : zG) (gr : Bool) (d : Nat) (m : zm) (Q : Option Value → zH → Prop), MR s m → (∀ m', MR (qs s 0) m' → fX m m' → pD m' (y_W s w) → WP g gr (d + 14) mX10_name 0 0 31 [.ref 810, .retAddr 0, .int l2] [] (mk m') Q) → Ok g gr (d + 14) mX10_name 0 0 [.ref 810, .int (nI w), .int l2] (mk m) Q := by
      intro g gr d m Q hm HH
      have hb := MR_b hm
      refine b_X10_name_0 ?_
      rintro m1 rfl
      refine ite_y (isG_y hw) ⟨MR_1 hb, ?_⟩
      exact d_lays (by omega) hG hw (hb.1 w hw) (fun m2 a1 a2 => HH m2 (MR_fM hb a2) (fX_trans fX_b (fX_fM a2)) a1)
    rcases i_case l2 (cln (gn (y_W s w))) (by omega) with h2 | ⟨j, hj, rfl⟩
    · refine ⟨qs s 6, -1, sOK_qs hs 6, fun g gr e m Q he hc K => ?_, fun g gr e m Q he hm K => ?_⟩
      · obtain ⟨d, rfl⟩ := dn (show 15 ≤ e by omega)
        exact cls g gr d m Q hc (fun m' a1 a2 b1 => b_X9_name_19 (s347 hw) (rl_n h2 (K _ (CR_t a1) (fC_trans a2 fC_t)) b1.2.1))
      · obtain ⟨d, rfl⟩ := dn (show 14 ≤ e by omega)
        refine mdl g gr d m Q hm (fun m' a1 a2 b1 => b_X10_name_31 ?_)
        rw [b1.1, i_cln _ (by omega)]
        exact ite_n (in1_n h2 rfl) (m_no2 a1 a2 K)
    · refine ⟨qs s 0, nI (l_c (S_t (srch (y_W s w))) j), sOK_qs hs 0, fun g gr e m Q he hc K => ?_, fun g gr e m Q he hm K => ?_⟩
      · obtain ⟨d, rfl⟩ := dn (show 15 ≤ e by omega)
        refine cls g gr d m Q hc (fun m' a1 a2 b1 => b_X9_name_19 (s347 hw) (rl_y hj ⟨pk_in j 28 (by omega), ?_⟩ b1.2.1))
        rw [cw (by omega), show 347 + 140 * w + 23 = 347 + 140 * w + 21 + 2 from rfl, b1.2.2.2.1 j hj]
        exact K _ (CR_t a1) (fC_trans a2 fC_t)
      · obtain ⟨d, rfl⟩ := dn (show 14 ≤ e by omega)
        refine mdl g gr d m Q hm (fun m' a1 a2 b1 => b_X10_name_31 ?_)
        rw [b1.1, i_cln _ (by omega)]
        refine ite_y (in1_y hj rfl) ⟨MR_1 a1, d_walksAll (by omega) hG b1 (fun m3 c1 _ c3 => b_X10_name_65 ⟨pk_in j 28 (by omega), ?_⟩)⟩
        rw [cw (by omega), (c1.2.2.2.2.2 bs2).2.2.1 j hj, ← bs3]
        exact K _ (MR_fM a1 c3) (fX_trans a2 (fX_fM c3))
theorem x_place {s : Sg} (hs : sOK s) (l1 l2 : Int32) : BX s mX9_place mX10_place [.int l1, .int l2] := by
  rcases i_case l1 3 (by decide) with h | ⟨w, hw, rfl⟩
  · refine ⟨qs s 1, -1, sOK_qs hs 1, fun g gr e m Q he hc K => ?_, fun g gr e m Q he hm K => ?_⟩
    · obtain ⟨d, rfl⟩ := dn (show 15 ≤ e by omega)
      exact b_X9_place_0 (rg_n h (K _ (CR_t hc) fC_t))
    · obtain ⟨d, rfl⟩ := dn (show 14 ≤ e by omega)
      refine b_X10_place_0 ?_
      rintro m1 rfl
      exact ite_n (isG_n h) (m_no hm K)
  · have hG := hs.1 w hw
    have h7 := hG.2.1.2
    obtain ⟨bs1, bs2, bs3⟩ := best_same hG
    rcases i_case l2 (gn (y_W s w)) (by omega) with h2 | ⟨j, hj, rfl⟩
    · refine ⟨qs s 6, -1, sOK_qs hs 6, fun g gr e m Q he hc K => ?_, fun g gr e m Q he hm K => ?_⟩
      · obtain ⟨d, rfl⟩ := dn (show 15 ≤ e by omega)
        refine b_X9_place_0 (rg_y hw ⟨pk_in w 3 hw, ?_⟩)
        rw [cw (by omega)]
        exact ite_n (has_n h2 (W_n hc hw)) (K _ (CR_t hc) fC_t)
      · obtain ⟨d, rfl⟩ := dn (show 14 ≤ e by omega)
        have hb := MR_b hm
        refine b_X10_place_0 ?_
        rintro m1 rfl
        refine ite_y (isG_y hw) ⟨MR_1 hb, ?_⟩
        rw [e57, c57 hw]
        exact ⟨v57 hw, ite_n (in1_n h2 (hb.1 w hw).1) (m_no2 hb fX_b K).2⟩
    · refine ⟨qs s 0, nI (l_a (S_t (srch (y_W s w))) j), sOK_qs hs 0, fun g gr e m Q he hc K => ?_, fun g gr e m Q he hm K => ?_⟩
      · obtain ⟨d, rfl⟩ := dn (show 15 ≤ e by omega)
        refine b_X9_place_0 (rg_y hw ⟨pk_in w 3 hw, ?_⟩)
        rw [cw (show w < 2 ^ 31 by omega)]
        refine ite_y (has_y hj (W_n hc hw)) (c_search (by omega) hs hw hc (fun m' a1 a2 a3 => b_X9_place_37 (s347 hw) ⟨pk_in j 7 (by omega), ?_⟩))
        rw [cw (by omega), show 347 + 140 * w + 24 = 347 + 140 * w + 21 + 3 from rfl, (a3.2.2.2.2.2.2.2 bs1).2.2.2.2.2 j hj]
        exact K _ (CR_t a1) (fC_trans a2 fC_t)
      · obtain ⟨d, rfl⟩ := dn (show 14 ≤ e by omega)
        have hb := MR_b hm
        refine b_X10_place_0 ?_
        rintro m1 rfl
        refine ite_y (isG_y hw) ⟨MR_1 hb, ?_⟩
        rw [e57, c57 hw]
        refine ⟨v57 hw, ite_y (in1_y hj (hb.1 w hw).1) (d_lays (by omega) hG hw (hb.1 w hw) (fun m2 a1 a2 => b_X10_place_60 (d_walksAll (by omega) hG a1 (fun m3 c1 _ c3 => b_X10_place_64 ⟨pk_in j 7 (by omega), ?_⟩))))⟩
        rw [cw (by omega), (c1.2.2.2.2.2 bs2).2.2.2 j hj, ← bs3]
        exact K _ (MR_fM (MR_fM hb a2) c3) (fX_trans fX_b (fX_trans (fX_fM a2) (fX_fM c3)))
theorem x_generator {s : Sg} (hs : sOK s) (l1 l2 l3 : Int32) : BX s mX9_generator mX10_generator [.int l1, .int l2, .int l3] := by
  rcases i_case l1 3 (by decide) with h | ⟨w, hw, rfl⟩
  · refine ⟨qs s 1, -1, sOK_qs hs 1, fun g gr e m Q he hc K => ?_, fun g gr e m Q he hm K => ?_⟩
    · obtain ⟨d, rfl⟩ := dn (show 15 ≤ e by omega)
      exact b_X9_generator_0 (rg_n h (K _ (CR_t hc) fC_t))
    · obtain ⟨d, rfl⟩ := dn (show 14 ≤ e by omega)
      refine b_X10_generator_0 ?_
      rintro m1 rfl
      exact ite_n (isG_n h) (m_no hm K)
  · have hG := hs.1 w hw
    have h7 := hG.2.1.2
    rcases i_case l3 (gn (y_W s w)) (by omega) with h3 | ⟨v, hv, rfl⟩
    · refine ⟨qs s 1, -1, sOK_qs hs 1, fun g gr e m Q he hc K => ?_, fun g gr e m Q he hm K => ?_⟩
      · obtain ⟨d, rfl⟩ := dn (show 15 ≤ e by omega)
        refine b_X9_generator_0 (rg_y hw ⟨pk_in w 3 hw, ?_⟩)
        rw [cw (by omega)]
        exact ite_n (has_n h3 (W_n hc hw)) (K _ (CR_t hc) fC_t)
      · obtain ⟨d, rfl⟩ := dn (show 14 ≤ e by omega)
        have hb := MR_b hm
        refine b_X10_generator_0 ?_
        rintro m1 rfl
        refine ite_y (isG_y hw) ?_
        rw [e57, c57 hw]
        exact ⟨v57 hw, ite_n (in1_n h3 (hb.1 w hw).1) (m_no hm K)⟩
    · have hi := nod_0 hG
      have hsg : sgo (srch (y_W s w)) := sw_sgo hG hi sgo_0
      have hsf : sft (y_W s w) (srch (y_W s w)) := sw_sft hG hi (sft_0 (y_W s w))
      have hsl := srch_l hG
      have hgl : (S_g (srch (y_W s w))).length ≤ 5040 := by
        by_cases z : S_l (srch (y_W s w)) = 0
        · rw [hsg.1 z]; exact Nat.zero_le _
        · have := hsg.2 z; omega
      have cls : ∀ (g : zG) (gr : Bool) (d : Nat) (m : zm) (Q : Option Value → zH → Prop), CR s m → (∀ m', CR s m' → fC m m' → pSS m' (347 + 140 * w) (gn (y_W s w)) (srch (y_W s w)) → WP g gr (d + 15) mX9_generator 0 0 32 [.ref 1, .retAddr 0, .int l2, .int (nI v), .retAddr 0, .retAddr 0] [.ref (347 + 140 * w)] (mk m') Q) → Ok g gr (d + 15) mX9_generator 0 0 [.ref 1, .int (nI w), .int l2, .int (nI v)] (mk m) Q := by
        intro g gr d m Q hc HH
        refine b_X9_generator_0 (rg_y hw ⟨pk_in w 3 hw, ?_⟩)
        rw [cw (show w < 2 ^ 31 by omega)]
        exact ite_y (has_y hv (W_n hc hw)) (c_search (by omega) hs hw hc HH)
      have mdl : ∀ (g : zG) (gr : Bool) (d : Nat) (m : zm) (Q : Option Value → zH → Prop), MR s m → (∀ m', MR (qs s 0) m' → fX m m' → pXS m' (gn (y_W s w)) (srch (y_W s w)) → WP g gr (d + 14) mX10_generator 0 0 37 [.ref 810, .retAddr 0, .int l2, .int (nI v)] [] (mk m') Q) → Ok g gr (d + 14) mX10_generator 0 0 [.ref 810, .int (nI w), .int l2, .int (nI v)] (mk m) Q := by
        intro g gr d m Q hm HH
        have hb := MR_b hm
        refine b_X10_generator_0 ?_
        rintro m1 rfl
        refine ite_y (isG_y hw) ?_
        rw [e57, c57 hw]
        refine ⟨v57 hw, ite_y (in1_y hv (hb.1 w hw).1) ⟨MR_1 hb, ?_⟩⟩
        refine d_lays (by omega) hG hw (hb.1 w hw) (fun m2 a1 a2 => b_X10_generator_33 (d_searchesAll (by omega) hG a1 (fun m3 b1 b3 => ?_)))
        exact HH m3 (MR_fM (MR_fM hb a2) b3) (fX_trans fX_b (fX_trans (fX_fM a2) (fX_fM b3))) b1
      rcases i_case l2 (S_g (srch (y_W s w))).length (by omega) with h2 | ⟨j, hj, rfl⟩
      · refine ⟨qs s 6, -1, sOK_qs hs 6, fun g gr e m Q he hc K => ?_, fun g gr e m Q he hm K => ?_⟩
        · obtain ⟨d, rfl⟩ := dn (show 15 ≤ e by omega)
          exact cls g gr d m Q hc (fun m' a1 a2 a3 => b_X9_generator_32 (s347 hw) (rl_n h2 (K _ (CR_t a1) (fC_trans a2 fC_t)) a3.2.2.2.2.2.1))
        · obtain ⟨d, rfl⟩ := dn (show 14 ≤ e by omega)
          exact mdl g gr d m Q hm (fun m' a1 a2 a3 => b_X10_generator_37 (ite_n (in1_n h2 a3.2.2.2.2.2.1) (m_no2 a1 a2 K)))
      · have hmem : (S_g (srch (y_W s w))).getD j 0 ∈ S_g (srch (y_W s w)) := by
          refine List.mem_of_getElem? (i := j) ?_
          rw [List.getD_eq_getElem?_getD, List.getElem?_eq_getElem hj]; rfl
        have hlt := hsf.2 _ hmem
        refine ⟨qs s 0, nI (sent ((S_g (srch (y_W s w))).getD j 0) v), sOK_qs hs 0, fun g gr e m Q he hc K => ?_, fun g gr e m Q he hm K => ?_⟩
        · obtain ⟨d, rfl⟩ := dn (show 15 ≤ e by omega)
          refine cls g gr d m Q hc (fun m' a1 a2 a3 => b_X9_generator_32 (s347 hw) (rl_y hj ⟨pk_in j 5040 (by omega), ?_⟩ a3.2.2.2.2.2.1))
          rw [cw (by omega), a3.2.2.2.2.2.2.1 j hj, i_sent (by omega) (by omega)]
          exact K _ (CR_t a1) (fC_trans a2 fC_t)
        · obtain ⟨d, rfl⟩ := dn (show 14 ≤ e by omega)
          refine mdl g gr d m Q hm (fun m' a1 a2 a3 => b_X10_generator_37 (ite_y (in1_y hj a3.2.2.2.2.2.1) ⟨MR_1 a1, pk_in j 5040 (by omega), ?_⟩))
          rw [cw (by omega), a3.2.2.2.2.2.2.1 j hj, i_sentM (by omega) (by omega)]
          exact K _ a1 a2
end ZAs
