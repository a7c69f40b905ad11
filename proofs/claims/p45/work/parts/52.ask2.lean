/-! calls and their answers -/
section ZAs
theorem y_orbit {s : Sg} (hs : sOK s) {w : Nat} (hw : w < 3) {v : Nat} (hv : v < gn (y_W s w)) : CX s (qs s 0) (nI (rch (mps (y_W s w) (y_W s w) 0) v)) mX9_orbit [.int (nI w), .int (nI v)] := by
  have hG := hs.1 w hw
  have h7 := hG.2.1.2
  intro g gr e m Q he hc K
  obtain ⟨d, rfl⟩ := dn (show 13 ≤ e by omega)
  refine b_X9_orbit_0 (rg_y hw ⟨pk_in w 3 hw, ?_⟩)
  rw [cw (by omega)]
  refine ite_y (has_y hv (W_n hc hw)) (k_match (s272 hw) (s272 hw) (by omega) hG hG (stay := 0) (by decide) (hc.1.1 w hw) (hc.1.1 w hw) (by omega) (by omega) (fun m' a1 _ a3 => b_X9_orbit_34 ⟨pk_in v 7 (by omega), ?_⟩))
  rw [cw (by omega), a1.2.1 v hv]
  exact K _ (CR_t (CR_fz hc a3 (by omega))) (fC_trans (fC_fz a3 (by omega)) fC_t)
theorem y_base {s : Sg} (hs : sOK s) {w : Nat} (hw : w < 3) {k : Nat} (hk : k < 2 ^ gn (y_W s w)) : CX s (qs s 0) (nI (bsq (y_W s w) k)) mX9_base [.int (nI w), .int (nI k)] := by
  have hG := hs.1 w hw
  have h7 := hG.2.1.2
  have h27 := p7 h7
  intro g gr e m Q he hc K
  obtain ⟨d, rfl⟩ := dn (show 5 ≤ e by omega)
  refine b_X9_base_0 (rg_y hw ⟨pk_in w 3 hw, ?_⟩)
  rw [cw (by omega)]
  refine ite_y (all_y hk h7 (W_n hc hw)) (k_begin a_152 (s272 hw) (by omega) hG (hc.1.1 w hw) (by omega) (fun m1 a1 _ a4 => b_X9_base_38 (s272 hw) ?_))
  have c1 := CR_fz hc a4 (by omega)
  exact k_cellsWith (s272 hw) (by omega) hG (c1.1.1 w hw) a1 (by omega) (by omega) (fun m2 b4 => b_X9_base_45 (K _ (CR_t (CR_fz c1 b4 (by omega))) (fC_trans (fC_fz a4 (by omega)) (fC_trans (fC_fz b4 (by omega)) fC_t))))
theorem y_place {s : Sg} (hs : sOK s) {w : Nat} (hw : w < 3) {j : Nat} (hj : j < gn (y_W s w)) : CX s (qs s 0) (nI (l_a (S_t (srch (y_W s w))) j)) mX9_place [.int (nI w), .int (nI j)] := by
  have hG := hs.1 w hw
  have h7 := hG.2.1.2
  obtain ⟨bs1, bs2, bs3⟩ := best_same hG
  intro g gr e m Q he hc K
  obtain ⟨d, rfl⟩ := dn (show 15 ≤ e by omega)
  refine b_X9_place_0 (rg_y hw ⟨pk_in w 3 hw, ?_⟩)
  rw [cw (show w < 2 ^ 31 by omega)]
  refine ite_y (has_y hj (W_n hc hw)) (c_search (by omega) hs hw hc (fun m' a1 a2 a3 => b_X9_place_37 (s347 hw) ⟨pk_in j 7 (by omega), ?_⟩))
  rw [cw (by omega), show 347 + 140 * w + 24 = 347 + 140 * w + 21 + 3 from rfl, (a3.2.2.2.2.2.2.2 bs1).2.2.2.2.2 j hj]
  exact K _ (CR_t a1) (fC_trans a2 fC_t)
theorem y_name {s : Sg} (hs : sOK s) {w : Nat} (hw : w < 3) {j : Nat} (hj : j < cln (gn (y_W s w))) : CX s (qs s 0) (nI (l_c (S_t (srch (y_W s w))) j)) mX9_name [.int (nI w), .int (nI j)] := by
  have key : ∀ l2 : Int32, l2 = nI j → CX s (qs s 0) (nI (l_c (S_t (srch (y_W s w))) j)) mX9_name [.int (nI w), .int l2] := by
    intro l2 el2
    have hG := hs.1 w hw
    have h7 := hG.2.1.2
    obtain ⟨bs1, bs2, bs3⟩ := best_same hG
    have hcl := (cln_tab (gn (y_W s w)) h7).2
    have hcl1 : 1 ≤ cln (gn (y_W s w)) := by unfold cln; have := hG.2.1.1; omega
    have cls : ∀ (g : zG) (gr : Bool) (d : Nat) (m : zm) (Q : Option Value → zH → Prop), CR s m → (∀ m', CR s m' → fC m m' → pF m' (347 + 140 * w + 21) (gn (y_W s w)) (S_t (srch (y_W s w))) → WP g gr (d + 15) mX9_name 0 0 19 [.ref 1, .retAddr 0, .int l2, .retAddr 0] [.ref (347 + 140 * w)] (mk m') Q) → Ok g gr (d + 15) mX9_name 0 0 [.ref 1, .int (nI w), .int l2] (mk m) Q := by
      intro g gr d m Q hc HH
      exact b_X9_name_0 (rg_y hw ⟨pk_in w 3 hw, c_search (by omega) hs hw hc (fun m' a1 a2 a3 => HH m' a1 a2 (a3.2.2.2.2.2.2.2 bs1).2)⟩)
    subst el2
    intro g gr e m Q he hc K
    obtain ⟨d, rfl⟩ := dn (show 15 ≤ e by omega)
    refine cls g gr d m Q hc (fun m' a1 a2 b1 => b_X9_name_19 (s347 hw) (rl_y hj ⟨pk_in j 28 (by omega), ?_⟩ b1.2.1))
    rw [cw (by omega), show 347 + 140 * w + 23 = 347 + 140 * w + 21 + 2 from rfl, b1.2.2.2.1 j hj]
    exact K _ (CR_t a1) (fC_trans a2 fC_t)
  exact key _ rfl
theorem y_name_x {s : Sg} (hs : sOK s) {w : Nat} (hw : w < 3) {l2 : Int32} (h2 : l2 < 0 ∨ (¬ l2 < 0 ∧ nI (cln (gn (y_W s w))) ≤ l2)) : CX s (qs s 6) (-1) mX9_name [.int (nI w), .int l2] := by
  have hG := hs.1 w hw
  have h7 := hG.2.1.2
  obtain ⟨bs1, bs2, bs3⟩ := best_same hG
  have hcl := (cln_tab (gn (y_W s w)) h7).2
  have hcl1 : 1 ≤ cln (gn (y_W s w)) := by unfold cln; have := hG.2.1.1; omega
  have cls : ∀ (g : zG) (gr : Bool) (d : Nat) (m : zm) (Q : Option Value → zH → Prop), CR s m → (∀ m', CR s m' → fC m m' → pF m' (347 + 140 * w + 21) (gn (y_W s w)) (S_t (srch (y_W s w))) → WP g gr (d + 15) mX9_name 0 0 19 [.ref 1, .retAddr 0, .int l2, .retAddr 0] [.ref (347 + 140 * w)] (mk m') Q) → Ok g gr (d + 15) mX9_name 0 0 [.ref 1, .int (nI w), .int l2] (mk m) Q := by
    intro g gr d m Q hc HH
    exact b_X9_name_0 (rg_y hw ⟨pk_in w 3 hw, c_search (by omega) hs hw hc (fun m' a1 a2 a3 => HH m' a1 a2 (a3.2.2.2.2.2.2.2 bs1).2)⟩)
  intro g gr e m Q he hc K
  obtain ⟨d, rfl⟩ := dn (show 15 ≤ e by omega)
  exact cls g gr d m Q hc (fun m' a1 a2 b1 => b_X9_name_19 (s347 hw) (rl_n h2 (K _ (CR_t a1) (fC_trans a2 fC_t)) b1.2.1))
theorem y_copy {s : Sg} (hs : sOK s) {w : Nat} (hw : w < 3) {u : Nat} (hu : u < 3) (hwu : ¬ w = u) : CX s (qs (gs (ks s u) u (y_W s w)) 0) (nI (gn (y_W s w))) mX9_copy [.int (nI w), .int (nI u)] := by
  have hG := hs.1 w hw
  have hH := hs.1 u hu
  have h7 := hG.2.1.2
  have h7' := hH.2.1.2
  have hne : ¬ nI w = nI u := fun z => hwu ((nI_eq (by omega) (by omega)).mp z)
  intro g gr e m Q he hc K
  obtain ⟨d, rfl⟩ := dn (show 4 ≤ e by omega)
  refine b_X9_copy_0 (rg_y hw ⟨pk_in w 3 hw, rg_y hu ⟨pk_in u 3 hu, ⟨fun _ => ?_, fun z => absurd z hne⟩⟩⟩)
  rw [cw (show w < 2 ^ 31 by omega), cw (show u < 2 ^ 31 by omega)]
  refine c_keep (by omega) hs hu hc (fun m1 a1 a2 => b_X9_copy_49 (s272 hw) (s272 hu) ?_)
  have p1 : pG m1 (272 + 140 * w) (y_W s w) := a1.1.1 w hw
  have hd : 272 + 140 * u + 15 ≤ 272 + 140 * w ∨ 272 + 140 * w + 15 ≤ 272 + 140 * u := by
    have : w = 0 ∨ w = 1 ∨ w = 2 := by omega
    have : u = 0 ∨ u = 1 ∨ u = 2 := by omega
    omega
  refine k_take (s272 hu) (s272 hw) (by omega) hd p1 (fun m2 b1 b2 => b_X9_copy_55 (s272 hu) ?_)
  rw [b1.1]
  exact K _ (CR_t (CR_g hu a1 b1 (by rw [show 287 + 140 * u = 272 + 140 * u + 15 by omega]; exact b2))) (fC_trans a2 (fC_trans (fC_fz b2 (by omega)) fC_t))
theorem y_shuffle {s : Sg} (hs : sOK s) {w : Nat} (hw : w < 3) {k : Nat} (k1 : 1 ≤ k) (k2 : k < 2147483647) : CX s (qs (gs (ks s w) w (mxs (gn (y_W s w) - 1) k (y_W s w) 0).1) 0) (nI (mxs (gn (y_W s w) - 1) k (y_W s w) 0).2) mX9_shuffle [.int (nI w), .int (nI k)] := by
  have hG := hs.1 w hw
  have h7 := hG.2.1.2
  have hn1 := hG.2.1.1
  have hX := mxs_WF (gn (y_W s w) - 1) k (y_W s w) 0 hG (by omega)
  intro g gr e m Q he hc K
  obtain ⟨d, rfl⟩ := dn (show 4 ≤ e by omega)
  refine b_X9_shuffle_0 (rg_y hw ⟨pk_in w 3 hw, ?_⟩)
  rw [cw (show w < 2 ^ 31 by omega)]
  refine ⟨fun z => absurd z (nI_nlt k1 (by omega)), fun _ => ⟨fun _ => ?_, fun z => absurd (show nI k < (2147483647 : Int32) from nI_lt k2 (by decide)) z⟩⟩
  refine c_keep (by omega) hs hw hc (fun m1 a1 a2 => b_X9_shuffle_43 (s272 hw) ?_)
  refine k_mix (s272 hw) (by omega) hG (a1.1.1 w hw) k2 (fun m2 b1 b2 => b_X9_shuffle_49 ?_)
  exact K _ (CR_t (CR_g hw a1 b1 (by rw [show 287 + 140 * w = 272 + 140 * w + 15 by omega]; exact b2))) (fC_trans a2 (fC_trans (fC_fz b2 (by omega)) fC_t))
theorem y_maps {s : Sg} (hs : sOK s) {w : Nat} (hw : w < 3) {u : Nat} (hu : u < 3) : CX s (qs s 0) (nI (mps (y_W s w) (y_W s u) 0).length) mX9_maps [.int (nI w), .int (nI u)] := by
  have hG := hs.1 w hw
  have hH := hs.1 u hu
  have h7 := hG.2.1.2
  have h7' := hH.2.1.2
  intro g gr e m Q he hc K
  obtain ⟨d, rfl⟩ := dn (show 13 ≤ e by omega)
  refine b_X9_maps_0 (rg_y hw ⟨pk_in w 3 hw, rg_y hu ⟨pk_in u 3 hu, ?_⟩⟩)
  rw [cw (show w < 2 ^ 31 by omega), cw (show u < 2 ^ 31 by omega)]
  refine k_match (s272 hw) (s272 hu) (by omega) hG hH (stay := 0) (by decide) (hc.1.1 w hw) (hc.1.1 u hu) (by omega) (by omega) (fun m' a1 _ a3 => b_X9_maps_39 ?_)
  rw [a1.1]
  exact K _ (CR_t (CR_fz hc a3 (by omega))) (fC_trans (fC_fz a3 (by omega)) fC_t)
theorem y_changes {s : Sg} (hs : sOK s) {w : Nat} (hw : w < 3) {u : Nat} (hu : u < 3) (hn : gn (y_W s w) = gn (y_W s u)) : CX s (qs s 0) (nI (chg (y_W s w) (y_W s u))) mX9_changes [.int (nI w), .int (nI u)] := by
  have hG := hs.1 w hw
  have hH := hs.1 u hu
  have h7 := hG.2.1.2
  have h7' := hH.2.1.2
  intro g gr e m Q he hc K
  obtain ⟨d, rfl⟩ := dn (show 11 ≤ e by omega)
  refine b_X9_changes_0 (rg_y hw ⟨pk_in w 3 hw, rg_y hu ⟨pk_in u 3 hu, ?_⟩⟩)
  rw [cw (show w < 2 ^ 31 by omega), cw (show u < 2 ^ 31 by omega), W_n hc hw, W_n hc hu]
  refine ite_y (by rw [hn]) ?_
  exact k_leastChanges (s272 hw) (s272 hu) (by omega) hG hH hn (hc.1.1 w hw) (hc.1.1 u hu) (by omega) (by omega) (fun m' a3 => b_X9_changes_57 (K _ (CR_t (CR_fz hc a3 (by omega))) (fC_trans (fC_fz a3 (by omega)) fC_t)))
theorem y_told {s : Sg} (hs : sOK s) {w : Nat} (hw : w < 3) {u : Nat} (hu : u < 3) (hn : gn (y_W s w) = gn (y_W s u)) : CX s (qs s 0) (told (y_W s w) (y_W s u)) mX9_told [.int (nI w), .int (nI u)] := by
  have hG := hs.1 w hw
  have hH := hs.1 u hu
  have h7 := hG.2.1.2
  have h7' := hH.2.1.2
  intro g gr e m Q he hc K
  obtain ⟨d, rfl⟩ := dn (show 4 ≤ e by omega)
  refine b_X9_told_0 (rg_y hw ⟨pk_in w 3 hw, rg_y hu ⟨pk_in u 3 hu, ?_⟩⟩)
  rw [cw (show w < 2 ^ 31 by omega), cw (show u < 2 ^ 31 by omega), W_n hc hw, W_n hc hu]
  refine ite_y (by rw [hn]) ?_
  exact k_toldApart (s272 hw) (s272 hu) (by omega) hG hH hn (hc.1.1 w hw) (hc.1.1 u hu) (by omega) (by omega) (fun m' a3 => b_X9_told_54 (K _ (CR_t (CR_fz hc a3 (by omega))) (fC_trans (fC_fz a3 (by omega)) fC_t)))
theorem y_leave {s : Sg} (hs : sOK s) {w : Nat} (hw : w < 3) {k : Nat} (hk : k < 2 ^ gn (y_W s w)) : CX s (qs s 0) (nI (mps (y_W s w) (y_W s w) k).length) mX9_leave [.int (nI w), .int (nI k)] := by
  have hG := hs.1 w hw
  have h7 := hG.2.1.2
  have h27 := p7 h7
  intro g gr e m Q he hc K
  obtain ⟨d, rfl⟩ := dn (show 13 ≤ e by omega)
  refine b_X9_leave_0 (rg_y hw ⟨pk_in w 3 hw, ?_⟩)
  rw [cw (by omega)]
  refine ite_y (all_y hk h7 (W_n hc hw)) (k_match (s272 hw) (s272 hw) (by omega) hG hG (by omega) (hc.1.1 w hw) (hc.1.1 w hw) (by omega) (by omega) (fun m' a1 _ a3 => b_X9_leave_40 ?_))
  rw [a1.1]
  exact K _ (CR_t (CR_fz hc a3 (by omega))) (fC_trans (fC_fz a3 (by omega)) fC_t)
theorem y_leave_x {s : Sg} (hs : sOK s) {w : Nat} (hw : w < 3) {l2 : Int32} (h2 : l2 < 0 ∨ (¬ l2 < 0 ∧ nI (2 ^ gn (y_W s w)) ≤ l2)) : CX s (qs s 2) (-1) mX9_leave [.int (nI w), .int l2] := by
  have hG := hs.1 w hw
  have h7 := hG.2.1.2
  have h27 := p7 h7
  intro g gr e m Q he hc K
  obtain ⟨d, rfl⟩ := dn (show 13 ≤ e by omega)
  refine b_X9_leave_0 (rg_y hw ⟨pk_in w 3 hw, ?_⟩)
  rw [cw (by omega)]
  exact ite_n (all_n h2 h7 (W_n hc hw)) (K _ (CR_t hc) fC_t)
theorem y_tree_0 {s : Sg} (hs : sOK s) {w : Nat} (hw : w < 3) : CX s (qs s 0) (nI (t_n (tree (y_W s w)))) mX9_tree [.int (nI w), .int (nI 0)] := by
  have key : ∀ k, k < 5 → k = 0 → CX s (qs s 0) (nI (t_n (tree (y_W s w)))) mX9_tree [.int (nI w), .int (nI k)] := by
    intro k hk ek
    have hG := hs.1 w hw
    have h7 := hG.2.1.2
    have cls : ∀ (g : zG) (gr : Bool) (d : Nat) (m : zm) (Q : Option Value → zH → Prop), CR s m → (∀ m', CR s m' → fC m m' → pTS m' (287 + 140 * w) (gn (y_W s w)) (tree (y_W s w)) → m'.1 (287 + 140 * w + 22) 0 = nI (ms0 (y_W s w) 0) → WP g gr (d + 14) mX9_tree 0 0 39 [.ref 1, .retAddr 0, .int (nI k), .retAddr 0, .ref (287 + 140 * w)] [] (mk m') Q) → Ok g gr (d + 14) mX9_tree 0 0 [.ref 1, .int (nI w), .int (nI k)] (mk m) Q := by
      intro g gr d m Q hc HH
      refine b_X9_tree_0 (rg_y hw ⟨pk_in w 3 hw, rh_y (n := 4) hk ?_⟩)
      rw [cw (by omega)]
      exact c_tree (by omega) hs hw hc HH
    subst ek
    intro g gr e m Q he hc K
    obtain ⟨d, rfl⟩ := dn (show 14 ≤ e by omega)
    refine cls g gr d m Q hc (fun m' a1 a2 a3 a4 => b_X9_tree_39 (s287 hw) ⟨fun _ => ?_, fun z => absurd z (by decide), fun z => absurd z (by decide), fun z => absurd z (by decide), fun z => absurd rfl z.1⟩)
    rw [a3.1]
    exact K _ (CR_t a1) (fC_trans a2 fC_t)
  exact key 0 (by decide) rfl
theorem y_tree_1 {s : Sg} (hs : sOK s) {w : Nat} (hw : w < 3) : CX s (qs s 0) (nI (t_l (tree (y_W s w)))) mX9_tree [.int (nI w), .int (nI 1)] := by
  have key : ∀ k, k < 5 → k = 1 → CX s (qs s 0) (nI (t_l (tree (y_W s w)))) mX9_tree [.int (nI w), .int (nI k)] := by
    intro k hk ek
    have hG := hs.1 w hw
    have h7 := hG.2.1.2
    have cls : ∀ (g : zG) (gr : Bool) (d : Nat) (m : zm) (Q : Option Value → zH → Prop), CR s m → (∀ m', CR s m' → fC m m' → pTS m' (287 + 140 * w) (gn (y_W s w)) (tree (y_W s w)) → m'.1 (287 + 140 * w + 22) 0 = nI (ms0 (y_W s w) 0) → WP g gr (d + 14) mX9_tree 0 0 39 [.ref 1, .retAddr 0, .int (nI k), .retAddr 0, .ref (287 + 140 * w)] [] (mk m') Q) → Ok g gr (d + 14) mX9_tree 0 0 [.ref 1, .int (nI w), .int (nI k)] (mk m) Q := by
      intro g gr d m Q hc HH
      refine b_X9_tree_0 (rg_y hw ⟨pk_in w 3 hw, rh_y (n := 4) hk ?_⟩)
      rw [cw (by omega)]
      exact c_tree (by omega) hs hw hc HH
    subst ek
    intro g gr e m Q he hc K
    obtain ⟨d, rfl⟩ := dn (show 14 ≤ e by omega)
    refine cls g gr d m Q hc (fun m' a1 a2 a3 a4 => b_X9_tree_39 (s287 hw) ⟨fun z => absurd z (by decide), fun _ => ?_, fun z => absurd z (by decide), fun z => absurd z (by decide), fun z => absurd rfl z.2.1⟩)
    rw [a3.2.1]
    exact K _ (CR_t a1) (fC_trans a2 fC_t)
  exact key 1 (by decide) rfl
theorem y_tree_2 {s : Sg} (hs : sOK s) {w : Nat} (hw : w < 3) : CX s (qs s 0) (nI (t_d (tree (y_W s w)))) mX9_tree [.int (nI w), .int (nI 2)] := by
  have key : ∀ k, k < 5 → k = 2 → CX s (qs s 0) (nI (t_d (tree (y_W s w)))) mX9_tree [.int (nI w), .int (nI k)] := by
    intro k hk ek
    have hG := hs.1 w hw
    have h7 := hG.2.1.2
    have cls : ∀ (g : zG) (gr : Bool) (d : Nat) (m : zm) (Q : Option Value → zH → Prop), CR s m → (∀ m', CR s m' → fC m m' → pTS m' (287 + 140 * w) (gn (y_W s w)) (tree (y_W s w)) → m'.1 (287 + 140 * w + 22) 0 = nI (ms0 (y_W s w) 0) → WP g gr (d + 14) mX9_tree 0 0 39 [.ref 1, .retAddr 0, .int (nI k), .retAddr 0, .ref (287 + 140 * w)] [] (mk m') Q) → Ok g gr (d + 14) mX9_tree 0 0 [.ref 1, .int (nI w), .int (nI k)] (mk m) Q := by
      intro g gr d m Q hc HH
      refine b_X9_tree_0 (rg_y hw ⟨pk_in w 3 hw, rh_y (n := 4) hk ?_⟩)
      rw [cw (by omega)]
      exact c_tree (by omega) hs hw hc HH
    subst ek
    intro g gr e m Q he hc K
    obtain ⟨d, rfl⟩ := dn (show 14 ≤ e by omega)
    refine cls g gr d m Q hc (fun m' a1 a2 a3 a4 => b_X9_tree_39 (s287 hw) ⟨fun z => absurd z (by decide), fun z => absurd z (by decide), fun _ => ?_, fun z => absurd z (by decide), fun z => absurd rfl z.2.2.1⟩)
    rw [a3.2.2.1]
    exact K _ (CR_t a1) (fC_trans a2 fC_t)
  exact key 2 (by decide) rfl
theorem y_tree_3 {s : Sg} (hs : sOK s) {w : Nat} (hw : w < 3) : CX s (qs s 0) (nI (ms0 (y_W s w) 0)) mX9_tree [.int (nI w), .int (nI 3)] := by
  have key : ∀ k, k < 5 → k = 3 → CX s (qs s 0) (nI (ms0 (y_W s w) 0)) mX9_tree [.int (nI w), .int (nI k)] := by
    intro k hk ek
    have hG := hs.1 w hw
    have h7 := hG.2.1.2
    have cls : ∀ (g : zG) (gr : Bool) (d : Nat) (m : zm) (Q : Option Value → zH → Prop), CR s m → (∀ m', CR s m' → fC m m' → pTS m' (287 + 140 * w) (gn (y_W s w)) (tree (y_W s w)) → m'.1 (287 + 140 * w + 22) 0 = nI (ms0 (y_W s w) 0) → WP g gr (d + 14) mX9_tree 0 0 39 [.ref 1, .retAddr 0, .int (nI k), .retAddr 0, .ref (287 + 140 * w)] [] (mk m') Q) → Ok g gr (d + 14) mX9_tree 0 0 [.ref 1, .int (nI w), .int (nI k)] (mk m) Q := by
      intro g gr d m Q hc HH
      refine b_X9_tree_0 (rg_y hw ⟨pk_in w 3 hw, rh_y (n := 4) hk ?_⟩)
      rw [cw (by omega)]
      exact c_tree (by omega) hs hw hc HH
    subst ek
    intro g gr e m Q he hc K
    obtain ⟨d, rfl⟩ := dn (show 14 ≤ e by omega)
    refine cls g gr d m Q hc (fun m' a1 a2 a3 a4 => b_X9_tree_39 (s287 hw) ⟨fun z => absurd z (by decide), fun z => absurd z (by decide), fun z => absurd z (by decide), fun _ => ?_, fun z => absurd rfl z.2.2.2⟩)
    rw [a4]
    exact K _ (CR_t a1) (fC_trans a2 fC_t)
  exact key 3 (by decide) rfl
end ZAs
