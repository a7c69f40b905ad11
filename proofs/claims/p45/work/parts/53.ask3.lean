/-! calls and their answers -/
section ZAs
theorem y_tree_4 {s : Sg} (hs : sOK s) {w : Nat} (hw : w < 3) : CX s (qs s 0) (nI (t_k (tree (y_W s w)))) mX9_tree [.int (nI w), .int (nI 4)] := by
  have key : ∀ k, k < 5 → k = 4 → CX s (qs s 0) (nI (t_k (tree (y_W s w)))) mX9_tree [.int (nI w), .int (nI k)] := by
    intro k hk ek
    have hG := hs.1 w hw
    have h7 := hG.2.1.2
    have cls : ∀ (g : zG) (gr : Bool) (d : Nat) (m : zm) (Q : Option Value → zH → Prop), CR s m → (∀ m', CR s m' → fC m m' → pTS m' (287 + 140 * w) (gn (y_W s w)) (tree (y_W s w)) → m'.1 (287 + 140 * w + 22) 0 = nI (ms0 (y_W s w) 0) → WP g gr (d + 14) mX9_tree 0 0 39 [.ref 1, .retAddr 0, .int (nI k), .retAddr 0, .ref (287 + 140 * w)] [] (mk m') Q) → Ok g gr (d + 14) mX9_tree 0 0 [.ref 1, .int (nI w), .int (nI k)] (mk m) Q := by
      intro g gr d m Q hc HH
      refine b_X9_tree_0 (rg_y hw ⟨pk_in w 3 hw, rh_y (n := 4) hk ?_⟩)
      rw [cw (by omega)]
      exact c_tree (by omega) hs hw hc HH
    subst ek
    intro g gr e m Q he hc K
    obtain ⟨d, rfl⟩ := dn (show 14 ≤ e by omega)
    refine cls g gr d m Q hc (fun m' a1 a2 a3 a4 => b_X9_tree_39 (s287 hw) ⟨fun z => absurd z (by decide), fun z => absurd z (by decide), fun z => absurd z (by decide), fun z => absurd z (by decide), fun _ => ?_⟩)
    rw [a3.2.2.2.1]
    exact K _ (CR_t a1) (fC_trans a2 fC_t)
  exact key 4 (by decide) rfl
theorem y_search_0 {s : Sg} (hs : sOK s) {w : Nat} (hw : w < 3) : CX s (qs s 0) (nI (S_n (srch (y_W s w)))) mX9_search [.int (nI w), .int (nI 0)] := by
  have key : ∀ k, k < 6 → k = 0 → CX s (qs s 0) (nI (S_n (srch (y_W s w)))) mX9_search [.int (nI w), .int (nI k)] := by
    intro k hk ek
    have hG := hs.1 w hw
    have h7 := hG.2.1.2
    have cls : ∀ (g : zG) (gr : Bool) (d : Nat) (m : zm) (Q : Option Value → zH → Prop), CR s m → (∀ m', CR s m' → fC m m' → pSS m' (347 + 140 * w) (gn (y_W s w)) (srch (y_W s w)) → WP g gr (d + 15) mX9_search 0 0 30 [.ref 1, .retAddr 0, .int (nI k), .retAddr 0, .retAddr 0] [.ref (347 + 140 * w)] (mk m') Q) → Ok g gr (d + 15) mX9_search 0 0 [.ref 1, .int (nI w), .int (nI k)] (mk m) Q := by
      intro g gr d m Q hc HH
      exact b_X9_search_0 (rg_y hw ⟨pk_in w 3 hw, rh_y (n := 5) hk (c_search (by omega) hs hw hc HH)⟩)
    subst ek
    intro g gr e m Q he hc K
    obtain ⟨d, rfl⟩ := dn (show 15 ≤ e by omega)
    refine cls g gr d m Q hc (fun m' a1 a2 a3 => b_X9_search_30 (s347 hw) ⟨fun _ => ?_, fun z => absurd z (by decide), fun z => absurd z (by decide), fun z => absurd z (by decide), fun z => absurd z (by decide), fun z => absurd rfl z.1⟩)
    rw [a3.1]
    exact K _ (CR_t a1) (fC_trans a2 fC_t)
  exact key 0 (by decide) rfl
theorem y_search_1 {s : Sg} (hs : sOK s) {w : Nat} (hw : w < 3) : CX s (qs s 0) (nI (S_l (srch (y_W s w)))) mX9_search [.int (nI w), .int (nI 1)] := by
  have key : ∀ k, k < 6 → k = 1 → CX s (qs s 0) (nI (S_l (srch (y_W s w)))) mX9_search [.int (nI w), .int (nI k)] := by
    intro k hk ek
    have hG := hs.1 w hw
    have h7 := hG.2.1.2
    have cls : ∀ (g : zG) (gr : Bool) (d : Nat) (m : zm) (Q : Option Value → zH → Prop), CR s m → (∀ m', CR s m' → fC m m' → pSS m' (347 + 140 * w) (gn (y_W s w)) (srch (y_W s w)) → WP g gr (d + 15) mX9_search 0 0 30 [.ref 1, .retAddr 0, .int (nI k), .retAddr 0, .retAddr 0] [.ref (347 + 140 * w)] (mk m') Q) → Ok g gr (d + 15) mX9_search 0 0 [.ref 1, .int (nI w), .int (nI k)] (mk m) Q := by
      intro g gr d m Q hc HH
      exact b_X9_search_0 (rg_y hw ⟨pk_in w 3 hw, rh_y (n := 5) hk (c_search (by omega) hs hw hc HH)⟩)
    subst ek
    intro g gr e m Q he hc K
    obtain ⟨d, rfl⟩ := dn (show 15 ≤ e by omega)
    refine cls g gr d m Q hc (fun m' a1 a2 a3 => b_X9_search_30 (s347 hw) ⟨fun z => absurd z (by decide), fun _ => ?_, fun z => absurd z (by decide), fun z => absurd z (by decide), fun z => absurd z (by decide), fun z => absurd rfl z.2.1⟩)
    rw [a3.2.1]
    exact K _ (CR_t a1) (fC_trans a2 fC_t)
  exact key 1 (by decide) rfl
theorem y_search_4 {s : Sg} (hs : sOK s) {w : Nat} (hw : w < 3) : CX s (qs s 0) (nI ((S_g (srch (y_W s w))).length)) mX9_search [.int (nI w), .int (nI 4)] := by
  have key : ∀ k, k < 6 → k = 4 → CX s (qs s 0) (nI ((S_g (srch (y_W s w))).length)) mX9_search [.int (nI w), .int (nI k)] := by
    intro k hk ek
    have hG := hs.1 w hw
    have h7 := hG.2.1.2
    have cls : ∀ (g : zG) (gr : Bool) (d : Nat) (m : zm) (Q : Option Value → zH → Prop), CR s m → (∀ m', CR s m' → fC m m' → pSS m' (347 + 140 * w) (gn (y_W s w)) (srch (y_W s w)) → WP g gr (d + 15) mX9_search 0 0 30 [.ref 1, .retAddr 0, .int (nI k), .retAddr 0, .retAddr 0] [.ref (347 + 140 * w)] (mk m') Q) → Ok g gr (d + 15) mX9_search 0 0 [.ref 1, .int (nI w), .int (nI k)] (mk m) Q := by
      intro g gr d m Q hc HH
      exact b_X9_search_0 (rg_y hw ⟨pk_in w 3 hw, rh_y (n := 5) hk (c_search (by omega) hs hw hc HH)⟩)
    subst ek
    intro g gr e m Q he hc K
    obtain ⟨d, rfl⟩ := dn (show 15 ≤ e by omega)
    refine cls g gr d m Q hc (fun m' a1 a2 a3 => b_X9_search_30 (s347 hw) ⟨fun z => absurd z (by decide), fun z => absurd z (by decide), fun z => absurd z (by decide), fun z => absurd z (by decide), fun _ => ?_, fun z => absurd rfl z.2.2.2.2⟩)
    rw [a3.2.2.2.2.2.1]
    exact K _ (CR_t a1) (fC_trans a2 fC_t)
  exact key 4 (by decide) rfl
theorem y_search_5 {s : Sg} (hs : sOK s) {w : Nat} (hw : w < 3) : CX s (qs s 0) (nI (S_b (srch (y_W s w)))) mX9_search [.int (nI w), .int (nI 5)] := by
  have key : ∀ k, k < 6 → k = 5 → CX s (qs s 0) (nI (S_b (srch (y_W s w)))) mX9_search [.int (nI w), .int (nI k)] := by
    intro k hk ek
    have hG := hs.1 w hw
    have h7 := hG.2.1.2
    have cls : ∀ (g : zG) (gr : Bool) (d : Nat) (m : zm) (Q : Option Value → zH → Prop), CR s m → (∀ m', CR s m' → fC m m' → pSS m' (347 + 140 * w) (gn (y_W s w)) (srch (y_W s w)) → WP g gr (d + 15) mX9_search 0 0 30 [.ref 1, .retAddr 0, .int (nI k), .retAddr 0, .retAddr 0] [.ref (347 + 140 * w)] (mk m') Q) → Ok g gr (d + 15) mX9_search 0 0 [.ref 1, .int (nI w), .int (nI k)] (mk m) Q := by
      intro g gr d m Q hc HH
      exact b_X9_search_0 (rg_y hw ⟨pk_in w 3 hw, rh_y (n := 5) hk (c_search (by omega) hs hw hc HH)⟩)
    subst ek
    intro g gr e m Q he hc K
    obtain ⟨d, rfl⟩ := dn (show 15 ≤ e by omega)
    refine cls g gr d m Q hc (fun m' a1 a2 a3 => b_X9_search_30 (s347 hw) ⟨fun z => absurd z (by decide), fun z => absurd z (by decide), fun z => absurd z (by decide), fun z => absurd z (by decide), fun z => absurd z (by decide), fun _ => ?_⟩)
    rw [a3.2.2.2.2.1]
    exact K _ (CR_t a1) (fC_trans a2 fC_t)
  exact key 5 (by decide) rfl
theorem y_generator {s : Sg} (hs : sOK s) {w : Nat} (hw : w < 3) {v : Nat} (hv : v < gn (y_W s w)) {j : Nat} (hj : j < (S_g (srch (y_W s w))).length) : CX s (qs s 0) (nI (sent ((S_g (srch (y_W s w))).getD j 0) v)) mX9_generator [.int (nI w), .int (nI j), .int (nI v)] := by
  have key : ∀ l2 : Int32, l2 = nI j → CX s (qs s 0) (nI (sent ((S_g (srch (y_W s w))).getD j 0) v)) mX9_generator [.int (nI w), .int l2, .int (nI v)] := by
    intro l2 el2
    have hG := hs.1 w hw
    have h7 := hG.2.1.2
    have hi := nod_0 hG
    have hsg : sgo (srch (y_W s w)) := sw_sgo hG hi sgo_0
    have hsf : sft (y_W s w) (srch (y_W s w)) := sw_sft hG hi (sft_0 (y_W s w))
    have hsl := srch_l hG
    have hgl : (S_g (srch (y_W s w))).length ≤ 5040 := by
      by_cases z : S_l (srch (y_W s w)) = 0
      · rw [hsg.1 z]; exact Nat.zero_le _
      · have := hsg.2 z; omega
    have cls : ∀ (g : zG) (gr : Bool) (d : Nat) (m : zm) (Q : Option Value → zH → Prop), CR s m → (∀ m', CR s m' → fC m m' → pSS m' (347 + 140 * w) (gn (y_W s w)) (srch (y_W s w)) → WP g gr (d + 15) mX9_generator 0 0 32 [.ref 1, .retAddr 0, .int l2, .int (nI v), .retAddr 0, .retAddr 0] [.ref (347 + 140 * w)] (mk m') Q) → Ok g gr (d + 15) mX9_generator 0 0 [.ref 1, .int (nI w), .int l2, .int (nI v)] (mk m) Q := by
      intro g gr d m Q hc HH
      refine b_X9_generator_0 (rg_y hw ⟨pk_in w 3 hw, ?_⟩)
      rw [cw (show w < 2 ^ 31 by omega)]
      exact ite_y (has_y hv (W_n hc hw)) (c_search (by omega) hs hw hc HH)
    have hmem : (S_g (srch (y_W s w))).getD j 0 ∈ S_g (srch (y_W s w)) := by
      refine List.mem_of_getElem? (i := j) ?_
      rw [List.getD_eq_getElem?_getD, List.getElem?_eq_getElem hj]; rfl
    have hlt := hsf.2 _ hmem
    subst el2
    intro g gr e m Q he hc K
    obtain ⟨d, rfl⟩ := dn (show 15 ≤ e by omega)
    refine cls g gr d m Q hc (fun m' a1 a2 a3 => b_X9_generator_32 (s347 hw) (rl_y hj ⟨pk_in j 5040 (by omega), ?_⟩ a3.2.2.2.2.2.1))
    rw [cw (by omega), a3.2.2.2.2.2.2.1 j hj, i_sent (by omega) (by omega)]
    exact K _ (CR_t a1) (fC_trans a2 fC_t)
  exact key _ rfl
theorem y_generator_x {s : Sg} (hs : sOK s) {w : Nat} (hw : w < 3) {v : Nat} (hv : v < gn (y_W s w)) {l2 : Int32} (h2 : l2 < 0 ∨ (¬ l2 < 0 ∧ nI (S_g (srch (y_W s w))).length ≤ l2)) : CX s (qs s 6) (-1) mX9_generator [.int (nI w), .int l2, .int (nI v)] := by
  have hG := hs.1 w hw
  have h7 := hG.2.1.2
  have hi := nod_0 hG
  have hsg : sgo (srch (y_W s w)) := sw_sgo hG hi sgo_0
  have hsf : sft (y_W s w) (srch (y_W s w)) := sw_sft hG hi (sft_0 (y_W s w))
  have hsl := srch_l hG
  have hgl : (S_g (srch (y_W s w))).length ≤ 5040 := by
    by_cases z : S_l (srch (y_W s w)) = 0
    · rw [hsg.1 z]; exact Nat.zero_le _
    · have := hsg.2 z; omega
  have cls : ∀ (g : zG) (gr : Bool) (d : Nat) (m : zm) (Q : Option Value → zH → Prop), CR s m → (∀ m', CR s m' → fC m m' → pSS m' (347 + 140 * w) (gn (y_W s w)) (srch (y_W s w)) → WP g gr (d + 15) mX9_generator 0 0 32 [.ref 1, .retAddr 0, .int l2, .int (nI v), .retAddr 0, .retAddr 0] [.ref (347 + 140 * w)] (mk m') Q) → Ok g gr (d + 15) mX9_generator 0 0 [.ref 1, .int (nI w), .int l2, .int (nI v)] (mk m) Q := by
    intro g gr d m Q hc HH
    refine b_X9_generator_0 (rg_y hw ⟨pk_in w 3 hw, ?_⟩)
    rw [cw (show w < 2 ^ 31 by omega)]
    exact ite_y (has_y hv (W_n hc hw)) (c_search (by omega) hs hw hc HH)
  intro g gr e m Q he hc K
  obtain ⟨d, rfl⟩ := dn (show 15 ≤ e by omega)
  exact cls g gr d m Q hc (fun m' a1 a2 a3 => b_X9_generator_32 (s347 hw) (rl_n h2 (K _ (CR_t a1) (fC_trans a2 fC_t)) a3.2.2.2.2.2.1))
theorem y_symmetries_0 {s : Sg} (hs : sOK s) {w : Nat} (hw : w < 3) : CX s (qs s 0) (nI (mps (y_W s w) (y_W s w) 0).length) mX9_symmetries [.int (nI w), .int (nI 0)] := by
  have key : ∀ k, k < 3 → k = 0 → CX s (qs s 0) (nI (mps (y_W s w) (y_W s w) 0).length) mX9_symmetries [.int (nI w), .int (nI k)] := by
    intro k hk ek
    have hG := hs.1 w hw
    have h7 := hG.2.1.2
    have hb7 := mps_lt (G := (y_W s w)) (H := (y_W s w)) (stay := 0) h7
    have cls : ∀ (g : zG) (gr : Bool) (d : Nat) (m : zm) (Q : Option Value → zH → Prop), CR s m → (∀ m', CR s m' → fC m m' → pPR m' (gn (y_W s w)) (mps (y_W s w) (y_W s w) 0) → m'.1 160 0 = nI (gn (y_W s w)) → WP g gr (d + 13) mX9_symmetries 0 0 35 [.ref 1, .retAddr 0, .int (nI k), .retAddr 0] [] (mk m') Q) → Ok g gr (d + 13) mX9_symmetries 0 0 [.ref 1, .int (nI w), .int (nI k)] (mk m) Q := by
      intro g gr d m Q hc HH
      refine b_X9_symmetries_0 (rg_y hw ⟨pk_in w 3 hw, rh_y (n := 2) hk ?_⟩)
      rw [cw (by omega)]
      exact k_match (s272 hw) (s272 hw) (by omega) hG hG (stay := 0) (by decide) (hc.1.1 w hw) (hc.1.1 w hw) (by omega) (by omega) (fun m' a1 a2 a3 => HH m' (CR_fz hc a3 (by omega)) (fC_fz a3 (by omega)) a1 a2)
    subst ek
    intro g gr e m Q he hc K
    obtain ⟨d, rfl⟩ := dn (show 13 ≤ e by omega)
    refine cls g gr d m Q hc (fun m' a1 a2 a3 a4 => b_X9_symmetries_35 ⟨fun _ => ?_, fun z => absurd z (by decide), fun z => absurd rfl z.1⟩)
    rw [a3.1]
    exact K _ (CR_t a1) (fC_trans a2 fC_t)
  exact key 0 (by decide) rfl
theorem y_symmetries_1 {s : Sg} (hs : sOK s) {w : Nat} (hw : w < 3) : CX s (qs s 0) (nI (orbs (gn (y_W s w)) (mps (y_W s w) (y_W s w) 0))) mX9_symmetries [.int (nI w), .int (nI 1)] := by
  have key : ∀ k, k < 3 → k = 1 → CX s (qs s 0) (nI (orbs (gn (y_W s w)) (mps (y_W s w) (y_W s w) 0))) mX9_symmetries [.int (nI w), .int (nI k)] := by
    intro k hk ek
    have hG := hs.1 w hw
    have h7 := hG.2.1.2
    have hb7 := mps_lt (G := (y_W s w)) (H := (y_W s w)) (stay := 0) h7
    have cls : ∀ (g : zG) (gr : Bool) (d : Nat) (m : zm) (Q : Option Value → zH → Prop), CR s m → (∀ m', CR s m' → fC m m' → pPR m' (gn (y_W s w)) (mps (y_W s w) (y_W s w) 0) → m'.1 160 0 = nI (gn (y_W s w)) → WP g gr (d + 13) mX9_symmetries 0 0 35 [.ref 1, .retAddr 0, .int (nI k), .retAddr 0] [] (mk m') Q) → Ok g gr (d + 13) mX9_symmetries 0 0 [.ref 1, .int (nI w), .int (nI k)] (mk m) Q := by
      intro g gr d m Q hc HH
      refine b_X9_symmetries_0 (rg_y hw ⟨pk_in w 3 hw, rh_y (n := 2) hk ?_⟩)
      rw [cw (by omega)]
      exact k_match (s272 hw) (s272 hw) (by omega) hG hG (stay := 0) (by decide) (hc.1.1 w hw) (hc.1.1 w hw) (by omega) (by omega) (fun m' a1 a2 a3 => HH m' (CR_fz hc a3 (by omega)) (fC_fz a3 (by omega)) a1 a2)
    subst ek
    intro g gr e m Q he hc K
    obtain ⟨d, rfl⟩ := dn (show 13 ≤ e by omega)
    refine cls g gr d m Q hc (fun m' a1 a2 a3 a4 => b_X9_symmetries_35 ⟨fun z => absurd z (by decide), fun _ => ?_, fun z => absurd rfl z.2⟩)
    refine k_orbits h7 a4 a3 hb7 (b_X9_symmetries_84 ?_)
    exact K _ (CR_t a1) (fC_trans a2 fC_t)
  exact key 1 (by decide) rfl
theorem y_symmetries_2 {s : Sg} (hs : sOK s) {w : Nat} (hw : w < 3) : CX s (qs s 0) (nI (stls (gn (y_W s w)) (mps (y_W s w) (y_W s w) 0))) mX9_symmetries [.int (nI w), .int (nI 2)] := by
  have key : ∀ k, k < 3 → k = 2 → CX s (qs s 0) (nI (stls (gn (y_W s w)) (mps (y_W s w) (y_W s w) 0))) mX9_symmetries [.int (nI w), .int (nI k)] := by
    intro k hk ek
    have hG := hs.1 w hw
    have h7 := hG.2.1.2
    have hb7 := mps_lt (G := (y_W s w)) (H := (y_W s w)) (stay := 0) h7
    have cls : ∀ (g : zG) (gr : Bool) (d : Nat) (m : zm) (Q : Option Value → zH → Prop), CR s m → (∀ m', CR s m' → fC m m' → pPR m' (gn (y_W s w)) (mps (y_W s w) (y_W s w) 0) → m'.1 160 0 = nI (gn (y_W s w)) → WP g gr (d + 13) mX9_symmetries 0 0 35 [.ref 1, .retAddr 0, .int (nI k), .retAddr 0] [] (mk m') Q) → Ok g gr (d + 13) mX9_symmetries 0 0 [.ref 1, .int (nI w), .int (nI k)] (mk m) Q := by
      intro g gr d m Q hc HH
      refine b_X9_symmetries_0 (rg_y hw ⟨pk_in w 3 hw, rh_y (n := 2) hk ?_⟩)
      rw [cw (by omega)]
      exact k_match (s272 hw) (s272 hw) (by omega) hG hG (stay := 0) (by decide) (hc.1.1 w hw) (hc.1.1 w hw) (by omega) (by omega) (fun m' a1 a2 a3 => HH m' (CR_fz hc a3 (by omega)) (fC_fz a3 (by omega)) a1 a2)
    subst ek
    intro g gr e m Q he hc K
    obtain ⟨d, rfl⟩ := dn (show 13 ≤ e by omega)
    refine cls g gr d m Q hc (fun m' a1 a2 a3 a4 => b_X9_symmetries_35 ⟨fun z => absurd z (by decide), fun z => absurd z (by decide), fun _ => ?_⟩)
    refine k_unmoved h7 a4 a3 hb7 (b_X9_symmetries_96 ?_)
    exact K _ (CR_t a1) (fC_trans a2 fC_t)
  exact key 2 (by decide) rfl
theorem y_feed {s : Sg} (hs : sOK s) (l1 l2 l3 l4 l5 : Int32) (hf : (y_T s).length ≤ 380) : CX s (Ts s (by4 (by4 (by4 (by4 (by4 (y_T s) l1) l2) l3) l4) l5)) (nI ((y_T s).length + 20)) mX9_feed [.int l1, .int l2, .int l3, .int l4, .int l5] := by
  have hT := hs.2.2.2.2.1
  have hB := hs.2.2.2.2.2
  have hl : (by4 (by4 (by4 (by4 (by4 (y_T s) l1) l2) l3) l4) l5).length = (y_T s).length + 20 := by simp only [by4_len]
  have hlt : ∀ b ∈ by4 (by4 (by4 (by4 (by4 (y_T s) l1) l2) l3) l4) l5, b < 256 := by4_lt (by4_lt (by4_lt (by4_lt (by4_lt hB))))
  intro g gr e m Q he hc K
  obtain ⟨d, rfl⟩ := dn (show 1 ≤ e by omega)
  have h0 : pT m (y_T s) := ⟨hc.1.2.2.2.1.1, hc.1.2.2.2.1.2.1⟩
  refine b_X9_feed_0 ?_
  rw [h0.1]
  refine pk_le (y_T s).length 380 (fun _ => ?_) (fun z => by omega)
  refine k_put (by omega) h0 (fun m1 a1 f1 => b_X9_feed_23 ?_)
  refine k_put (by simp only [by4_len]; omega) a1 (fun m2 a2 f2 => b_X9_feed_31 ?_)
  refine k_put (by simp only [by4_len]; omega) a2 (fun m3 a3 f3 => b_X9_feed_39 ?_)
  refine k_put (by simp only [by4_len]; omega) a3 (fun m4 a4 f4 => b_X9_feed_48 ?_)
  refine k_put (by simp only [by4_len]; omega) a4 (fun m5 a5 f5 => b_X9_feed_57 ?_)
  have f := fTp_trans f1 (fTp_trans f2 (fTp_trans f3 (fTp_trans f4 f5)))
  rw [a5.1, hl]
  exact K m5 (CR_T hc a5 f) (fC_T f)
theorem y_trouble {s : Sg} (hs : sOK s)  : CX s s (y_t s) mX9_trouble [] := by
  intro g gr e m Q he hc K
  refine b_X9_trouble_0 (d := e) ?_
  rw [hc.1.2.2.2.2.2.2.2]
  exact K m hc (fC_refl m)
theorem y_map {s : Sg} (hs : sOK s) {w : Nat} (hw : w < 3) {u : Nat} (hu : u < 3) {v : Nat} (hv : v < gn (y_W s w)) {p : Nat → Nat} {L : List (Nat → Nat)} (eL : mps (y_W s w) (y_W s u) 0 = p :: L) : CX s (qs s 0) (nI (p v)) mX9_map [.int (nI w), .int (nI u), .int (nI v)] := by
  have hz : ¬ (mps (y_W s w) (y_W s u) 0).length = 0 := by rw [eL]; exact Nat.succ_ne_zero _
  have hG := hs.1 w hw
  have hH := hs.1 u hu
  have h7 := hG.2.1.2
  have h7' := hH.2.1.2
  have cls : ∀ (g : zG) (gr : Bool) (d : Nat) (m : zm) (Q : Option Value → zH → Prop), CR s m → (∀ m', CR s m' → fC m m' → pPR m' (gn (y_W s w)) (mps (y_W s w) (y_W s u) 0) → WP g gr (d + 13) mX9_map 0 0 51 [.ref 1, .retAddr 0, .retAddr 0, .int (nI v), .retAddr 0, .retAddr 0] [] (mk m') Q) → Ok g gr (d + 13) mX9_map 0 0 [.ref 1, .int (nI w), .int (nI u), .int (nI v)] (mk m) Q := by
    intro g gr d m Q hc HH
    refine b_X9_map_0 (rg_y hw ⟨pk_in w 3 hw, rg_y hu ⟨pk_in u 3 hu, ?_⟩⟩)
    rw [cw (show w < 2 ^ 31 by omega), cw (show u < 2 ^ 31 by omega)]
    exact ite_y (has_y hv (W_n hc hw)) (k_match (s272 hw) (s272 hu) (by omega) hG hH (stay := 0) (by decide) (hc.1.1 w hw) (hc.1.1 u hu) (by omega) (by omega) (fun m' a1 _ a3 => HH m' (CR_fz hc a3 (by omega)) (fC_fz a3 (by omega)) a1))
  have hlen := mps_len (G := (y_W s w)) (H := (y_W s u)) (stay := 0) h7
  have hhd : (mps (y_W s w) (y_W s u) 0).head? = some p := by rw [eL]; rfl
  have hne : ¬ nI (mps (y_W s w) (y_W s u) 0).length = 0 := by
    rw [show (0 : Int32) = nI 0 from rfl, nI_eq (by omega) (by decide)]; exact hz
  intro g gr e m Q he hc K
  obtain ⟨d, rfl⟩ := dn (show 13 ≤ e by omega)
  refine cls g gr d m Q hc (fun m' a1 a2 a3 => b_X9_map_51 ⟨fun _ => ⟨pk_in v 7 (by omega), ?_⟩, fun z => absurd z (by rw [a3.1]; exact hne)⟩)
  rw [cw (by omega), a3.2.2 p hhd v hv]
  exact K _ (CR_t a1) (fC_trans a2 fC_t)
theorem y_less {s : Sg} (hs : sOK s) {w : Nat} (hw : w < 3) {u : Nat} (hu : u < 3) (hn : gn (y_W s w) = gn (y_W s u)) (z : kc (S_t (srch (y_W s w))) = kc (S_t (srch (y_W s u)))) : CX s (qs s 0) 2 mX9_less [.int (nI w), .int (nI u)] := by
  have hG := hs.1 w hw
  have hH := hs.1 u hu
  have h7 := hG.2.1.2
  have h7' := hH.2.1.2
  have hl := srch_best hG
  have hl' := srch_best hH


  -- what the class comes to
  have cls : ∀ (g : zG) (gr : Bool) (d : Nat) (m : zm) (Q : Option Value → zH → Prop), CR s m → (∀ m' (r : Int32), CR s m' → fC m m' → (r < 0 ↔ (gn (y_W s w) < gn (y_W s u) ∨ (gn (y_W s w) = gn (y_W s u) ∧ kc (S_t (srch (y_W s w))) < kc (S_t (srch (y_W s u)))))) → (r = 0 ↔ (gn (y_W s w) = gn (y_W s u) ∧ kc (S_t (srch (y_W s w))) = kc (S_t (srch (y_W s u))))) → WP g gr (d + 15) mX9_less 0 0 47 [.ref 1, .retAddr 0, .retAddr 0, .retAddr 0, .retAddr 0, .retAddr 0] [.int r] (mk m') Q) → Ok g gr (d + 15) mX9_less 0 0 [.ref 1, .int (nI w), .int (nI u)] (mk m) Q := by
    intro g gr d m Q hc HH
    refine b_X9_less_0 (rg_y hw ⟨pk_in w 3 hw, rg_y hu ⟨pk_in u 3 hu, ?_⟩⟩)
    refine c_searchF (by omega) hs hw hc (fun m1 a1 a2 a3 _ => b_X9_less_33 (s347 hw) ?_)
    refine c_searchF (by omega) hs hu a1 (fun m2 b1 b2 b3 b4 => b_X9_less_41 (s347 hu) (sX6_21 (s347 hw)) ?_)
    have p2 : pF m2 (347 + 140 * w + 21) (gn (y_W s w)) (S_t (srch (y_W s w))) := by
      by_cases z : w = u
      · subst z; exact b3
      · refine pF_fz a3 b4 ?_
        have : w = 0 ∨ w = 1 ∨ w = 2 := by omega
        have : u = 0 ∨ u = 1 ∨ u = 2 := by omega
        omega
    exact k_compareCodes (sX6_21 (s347 hw)) (sX6_21 (s347 hu)) (by omega) h7 h7' p2 b3 hl.2.1 hl'.2.1 (fun r r1 r2 => HH m2 r b1 (fC_trans a2 b2) r1 r2)
  have fin : ∀ (v : Int32), (∀ r : Int32, (r < 0 ↔ (gn (y_W s w) < gn (y_W s u) ∨ (gn (y_W s w) = gn (y_W s u) ∧ kc (S_t (srch (y_W s w))) < kc (S_t (srch (y_W s u)))))) → (r = 0 ↔ (gn (y_W s w) = gn (y_W s u) ∧ kc (S_t (srch (y_W s w))) = kc (S_t (srch (y_W s u))))) → (v = 0 ∧ r < 0) ∨ (v = 1 ∧ ¬ r < 0 ∧ ¬ r = 0) ∨ (v = 2 ∧ r = 0)) → CX s (qs s 0) v mX9_less [.int (nI w), .int (nI u)] := by
    intro v hv g gr e m Q he hc K
    obtain ⟨d, rfl⟩ := dn (show 15 ≤ e by omega)
    refine cls g gr d m Q hc (fun m' r a1 a2 r1 r2 => b_X9_less_47 ?_)
    rcases hv r r1 r2 with ⟨rfl, z⟩ | ⟨rfl, z1, z2⟩ | ⟨rfl, z⟩
    · exact ⟨fun y => absurd z (Int32.not_lt.mpr y), fun _ => K _ (CR_t a1) (fC_trans a2 fC_t)⟩
    · refine ⟨fun y => ⟨fun y2 => absurd (Int32.le_antisymm y2 y) z2, fun _ => K _ (CR_t a1) (fC_trans a2 fC_t)⟩, fun y => absurd (Int32.not_lt.mp z1) y⟩
    · subst z
      exact ⟨fun _ => ⟨fun _ => K _ (CR_t a1) (fC_trans a2 fC_t), fun y => absurd (by decide) y⟩, fun y => absurd (by decide) y⟩
  exact fin 2 (fun r r1 r2 => Or.inr (Or.inr ⟨rfl, r2.mpr ⟨hn, z⟩⟩))
end ZAs
