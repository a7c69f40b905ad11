/-! calls and their answers -/
section ZAs
theorem y_graph_n {s : Sg} (hs : sOK s) {w : Nat} (hw : w < 3) : CX s (qs s 0) (nI (gn (y_W s w))) mX9_graph [.int (nI w), .int (nI 0)] := by
  have key : ∀ k, k < 4 → k = 0 → CX s (qs s 0) (nI (gn (y_W s w))) mX9_graph [.int (nI w), .int (nI k)] := by
    intro k hk ek
    have hG := hs.1 w hw
    have h7 := hG.2.1.2
    have cls : ∀ (g : zG) (gr : Bool) (d : Nat) (m : zm) (Q : Option Value → zH → Prop), CR s m → _ → Ok g gr (d + 2) mX9_graph 0 0 [.ref 1, .int (nI w), .int (nI k)] (mk m) Q := fun g gr d m Q hc HH => b_X9_graph_0 (rg_y hw ⟨pk_in w 3 hw, rh_y (n := 3) hk HH⟩)
    subst ek
    intro g gr e m Q he hc K
    obtain ⟨d, rfl⟩ := dn (show 2 ≤ e by omega)
    refine cls g gr d m Q hc ⟨fun _ => ?_, fun z => absurd z (by decide), fun z => absurd z (by decide), fun z => absurd rfl z.1⟩
    rw [cw (by omega), W_n hc hw]
    exact K _ (CR_t hc) fC_t
  exact key 0 (by decide) rfl
theorem y_graph_links {s : Sg} (hs : sOK s) {w : Nat} (hw : w < 3) : CX s (qs s 0) (nI (fb_sm (dgr (y_W s w)) (gn (y_W s w)) / 2)) mX9_graph [.int (nI w), .int (nI 1)] := by
  have key : ∀ k, k < 4 → k = 1 → CX s (qs s 0) (nI (fb_sm (dgr (y_W s w)) (gn (y_W s w)) / 2)) mX9_graph [.int (nI w), .int (nI k)] := by
    intro k hk ek
    have hG := hs.1 w hw
    have h7 := hG.2.1.2
    have cls : ∀ (g : zG) (gr : Bool) (d : Nat) (m : zm) (Q : Option Value → zH → Prop), CR s m → _ → Ok g gr (d + 2) mX9_graph 0 0 [.ref 1, .int (nI w), .int (nI k)] (mk m) Q := fun g gr d m Q hc HH => b_X9_graph_0 (rg_y hw ⟨pk_in w 3 hw, rh_y (n := 3) hk HH⟩)
    subst ek
    intro g gr e m Q he hc K
    obtain ⟨d, rfl⟩ := dn (show 2 ≤ e by omega)
    refine cls g gr d m Q hc ⟨fun z => absurd z (by decide), fun _ => ?_, fun z => absurd z (by decide), fun z => absurd rfl z.2.1⟩
    rw [cw (by omega)]
    exact k_links (s272 hw) (by omega) h7 (hc.1.1 w hw) (b_X9_graph_66 (K _ (CR_t hc) fC_t))
  exact key 1 (by decide) rfl
theorem y_graph_colours {s : Sg} (hs : sOK s) {w : Nat} (hw : w < 3) : CX s (qs s 0) (nI (q0 (y_W s w))) mX9_graph [.int (nI w), .int (nI 2)] := by
  have key : ∀ k, k < 4 → k = 2 → CX s (qs s 0) (nI (q0 (y_W s w))) mX9_graph [.int (nI w), .int (nI k)] := by
    intro k hk ek
    have hG := hs.1 w hw
    have h7 := hG.2.1.2
    have cls : ∀ (g : zG) (gr : Bool) (d : Nat) (m : zm) (Q : Option Value → zH → Prop), CR s m → _ → Ok g gr (d + 2) mX9_graph 0 0 [.ref 1, .int (nI w), .int (nI k)] (mk m) Q := fun g gr d m Q hc HH => b_X9_graph_0 (rg_y hw ⟨pk_in w 3 hw, rh_y (n := 3) hk HH⟩)
    subst ek
    intro g gr e m Q he hc K
    obtain ⟨d, rfl⟩ := dn (show 2 ≤ e by omega)
    refine cls g gr d m Q hc ⟨fun z => absurd z (by decide), fun z => absurd z (by decide), fun _ => ?_, fun z => absurd rfl z.2.2⟩
    rw [cw (by omega)]
    refine k_byColours a_147 (s272 hw) hG (hc.1.1 w hw) (by omega) (fun m1 a1 _ _ a4 => b_X9_graph_78 ?_)
    rw [a1.1]
    exact K _ (CR_t (CR_fz hc a4 (by omega))) (fC_trans (fC_fz a4 (by omega)) fC_t)
  exact key 2 (by decide) rfl
theorem y_graph_most {s : Sg} (hs : sOK s) {w : Nat} (hw : w < 3) : CX s (qs s 0) (nI (mxl (y_W s w) (gn (y_W s w)))) mX9_graph [.int (nI w), .int (nI 3)] := by
  have key : ∀ k, k < 4 → k = 3 → CX s (qs s 0) (nI (mxl (y_W s w) (gn (y_W s w)))) mX9_graph [.int (nI w), .int (nI k)] := by
    intro k hk ek
    have hG := hs.1 w hw
    have h7 := hG.2.1.2
    have cls : ∀ (g : zG) (gr : Bool) (d : Nat) (m : zm) (Q : Option Value → zH → Prop), CR s m → _ → Ok g gr (d + 2) mX9_graph 0 0 [.ref 1, .int (nI w), .int (nI k)] (mk m) Q := fun g gr d m Q hc HH => b_X9_graph_0 (rg_y hw ⟨pk_in w 3 hw, rh_y (n := 3) hk HH⟩)
    subst ek
    intro g gr e m Q he hc K
    obtain ⟨d, rfl⟩ := dn (show 2 ≤ e by omega)
    refine cls g gr d m Q hc ⟨fun z => absurd z (by decide), fun z => absurd z (by decide), fun z => absurd z (by decide), fun _ => ?_⟩
    rw [cw (by omega)]
    exact k_mostLinks (s272 hw) (by omega) h7 (hc.1.1 w hw) (b_X9_graph_95 (K _ (CR_t hc) fC_t))
  exact key 3 (by decide) rfl
theorem y_graph_x {s : Sg} (hs : sOK s) {l1 : Int32} (l2 : Int32) (h : l1 < 0 ∨ (¬ l1 < 0 ∧ nI 3 ≤ l1)) : CX s (qs s 1) (-1) mX9_graph [.int l1, .int l2] := by
  intro g gr e m Q he hc K
  obtain ⟨d, rfl⟩ := dn (show 2 ≤ e by omega)
  exact b_X9_graph_0 (rg_n h (K _ (CR_t hc) fC_t))
theorem y_kind {s : Sg} (hs : sOK s) {w : Nat} (hw : w < 3) {a : Nat} (ha : a < gn (y_W s w)) {b : Nat} (hb : b < gn (y_W s w)) (hab : ¬ a = b) : CX s (qs s 0) (nI (gk (y_W s w) a b)) mX9_kind [.int (nI w), .int (nI a), .int (nI b)] := by
  have key : ∀ l2 l3 : Int32, l2 = nI a → l3 = nI b → CX s (qs s 0) (nI (gk (y_W s w) a b)) mX9_kind [.int (nI w), .int l2, .int l3] := by
    intro l2 l3 el2 el3
    have hG := hs.1 w hw
    have h7 := hG.2.1.2
    have cls : ∀ (r t : Int32), t ≠ 4 → ∀ (g : zG) (gr : Bool) (e : Nat) (m : zm) (Q : Option Value → zH → Prop), 18 ≤ e → CR s m → (∀ m', CR (qs s t) m' → fC m m' → Q (some (.int r)) (mk m')) → ((tX1_has m (272 + 140 * w) l2 → ((tX1_has m (272 + 140 * w) l3 → ((¬ l2 = l3 → (vp_in l2 7 ∧ (vp_in l3 7 ∧ (Q (some (.int (m.1 (272 + 140 * w + 3 + l2.toNatClampNeg) l3.toNatClampNeg))) (mk (wI m 1 13 (0 : Int32))))))) ∧ (l2 = l3 → (Q (some (.int (-1 : Int32))) (mk (wI m 1 13 (5 : Int32))))))) ∧ (¬ tX1_has m (272 + 140 * w) l3 → (Q (some (.int (-1 : Int32))) (mk (wI m 1 13 (1 : Int32))))))) ∧ (¬ tX1_has m (272 + 140 * w) l2 → (Q (some (.int (-1 : Int32))) (mk (wI m 1 13 (1 : Int32)))))) → Ok g gr e mX9_kind 0 0 [.ref 1, .int (nI w), .int l2, .int l3] (mk m) Q := by
      intro r t ht g gr e m Q he hc K HH
      obtain ⟨d, rfl⟩ := dn (show 1 ≤ e by omega)
      refine b_X9_kind_0 (rg_y hw ⟨pk_in w 3 hw, ?_⟩)
      rw [cw (by omega)]
      exact HH
    have hne : ¬ nI a = nI b := fun z => hab ((nI_eq (by omega) (by omega)).mp z)
    subst el2
    subst el3
    intro g gr e m Q he hc K
    refine cls (nI (gk (y_W s w) a b)) 0 (by decide) g gr e m Q he hc K (ite_y (has_y ha (W_n hc hw)) (ite_y (has_y hb (W_n hc hw)) ⟨fun _ => ⟨pk_in a 7 (by omega), pk_in b 7 (by omega), ?_⟩, fun z => absurd z hne⟩))
    rw [cw (show a < 2 ^ 31 by omega), cw (show b < 2 ^ 31 by omega), (hc.1.1 w hw).2.2.1 a b (by omega) (by omega)]
    exact K _ (CR_t hc) fC_t
  exact key _ _ rfl rfl
theorem y_kind_x {s : Sg} (hs : sOK s) {w : Nat} (hw : w < 3) {a : Nat} (ha : a < gn (y_W s w)) {b : Nat} (hb : b < gn (y_W s w)) (hab : a = b) : CX s (qs s 5) (-1) mX9_kind [.int (nI w), .int (nI a), .int (nI b)] := by
  have key : ∀ l2 l3 : Int32, l2 = nI a → l3 = nI b → CX s (qs s 5) (-1) mX9_kind [.int (nI w), .int l2, .int l3] := by
    intro l2 l3 el2 el3
    have hG := hs.1 w hw
    have h7 := hG.2.1.2
    have cls : ∀ (r t : Int32), t ≠ 4 → ∀ (g : zG) (gr : Bool) (e : Nat) (m : zm) (Q : Option Value → zH → Prop), 18 ≤ e → CR s m → (∀ m', CR (qs s t) m' → fC m m' → Q (some (.int r)) (mk m')) → ((tX1_has m (272 + 140 * w) l2 → ((tX1_has m (272 + 140 * w) l3 → ((¬ l2 = l3 → (vp_in l2 7 ∧ (vp_in l3 7 ∧ (Q (some (.int (m.1 (272 + 140 * w + 3 + l2.toNatClampNeg) l3.toNatClampNeg))) (mk (wI m 1 13 (0 : Int32))))))) ∧ (l2 = l3 → (Q (some (.int (-1 : Int32))) (mk (wI m 1 13 (5 : Int32))))))) ∧ (¬ tX1_has m (272 + 140 * w) l3 → (Q (some (.int (-1 : Int32))) (mk (wI m 1 13 (1 : Int32))))))) ∧ (¬ tX1_has m (272 + 140 * w) l2 → (Q (some (.int (-1 : Int32))) (mk (wI m 1 13 (1 : Int32)))))) → Ok g gr e mX9_kind 0 0 [.ref 1, .int (nI w), .int l2, .int l3] (mk m) Q := by
      intro r t ht g gr e m Q he hc K HH
      obtain ⟨d, rfl⟩ := dn (show 1 ≤ e by omega)
      refine b_X9_kind_0 (rg_y hw ⟨pk_in w 3 hw, ?_⟩)
      rw [cw (by omega)]
      exact HH
    subst hab
    subst el2
    subst el3
    intro g gr e m Q he hc K
    exact cls (-1) 5 (by decide) g gr e m Q he hc K (ite_y (has_y ha (W_n hc hw)) (ite_y (has_y ha (W_n hc hw)) ⟨fun z => absurd rfl z, fun _ => K _ (CR_t hc) fC_t⟩))
  exact key _ _ rfl rfl
theorem y_degree {s : Sg} (hs : sOK s) {w : Nat} (hw : w < 3) {v : Nat} (hv : v < gn (y_W s w)) {k : Nat} (hk : k < 4) : CX s (qs s 0) (nI (fb_ct (fun b => lk k (gk (y_W s w) v b)) (gn (y_W s w)))) mX9_degree [.int (nI w), .int (nI v), .int (nI k)] := by
  have hG := hs.1 w hw
  have h7 := hG.2.1.2
  intro g gr e m Q he hc K
  obtain ⟨d, rfl⟩ := dn (show 1 ≤ e by omega)
  refine b_X9_degree_0 (rg_y hw ⟨pk_in w 3 hw, ?_⟩)
  rw [cw (show w < 2 ^ 31 by omega)]
  refine ite_y (has_y hv (W_n hc hw)) (rl_y (n := 4) hk ⟨pk_in k 4 hk, pk_in v 7 (by omega), ?_⟩)
  rw [cw (show k < 2 ^ 31 by omega), cw (show v < 2 ^ 31 by omega), (hc.1.1 w hw).2.2.2 k v hk (by omega), i_bm (by decide), lk_n hG]
  exact K _ (CR_t hc) fC_t
theorem y_degree_x {s : Sg} (hs : sOK s) {w : Nat} (hw : w < 3) {v : Nat} (hv : v < gn (y_W s w)) {l3 : Int32} (h3 : l3 < 0 ∨ (¬ l3 < 0 ∧ nI 4 ≤ l3)) : CX s (qs s 2) (-1) mX9_degree [.int (nI w), .int (nI v), .int l3] := by
  have hG := hs.1 w hw
  have h7 := hG.2.1.2
  intro g gr e m Q he hc K
  obtain ⟨d, rfl⟩ := dn (show 1 ≤ e by omega)
  refine b_X9_degree_0 (rg_y hw ⟨pk_in w 3 hw, ?_⟩)
  rw [cw (show w < 2 ^ 31 by omega)]
  exact ite_y (has_y hv (W_n hc hw)) (rl_n (n := 4) h3 (K _ (CR_t hc) fC_t))
theorem y_colour {s : Sg} (hs : sOK s) {w : Nat} (hw : w < 3) {v : Nat} (hv : v < gn (y_W s w)) : CX s (qs s 0) (nI (gc (y_W s w) v)) mX9_colour [.int (nI w), .int (nI v)] := by
  have hG := hs.1 w hw
  have h7 := hG.2.1.2
  intro g gr e m Q he hc K
  obtain ⟨d, rfl⟩ := dn (show 1 ≤ e by omega)
  refine b_X9_colour_0 (rg_y hw ⟨pk_in w 3 hw, ?_⟩)
  rw [cw (by omega)]
  refine ite_y (has_y hv (W_n hc hw)) ⟨pk_in v 7 (by omega), ?_⟩
  rw [cw (by omega), (hc.1.1 w hw).2.1 v (by omega)]
  exact K _ (CR_t hc) fC_t
theorem y_start_n {s : Sg} (hs : sOK s) {w : Nat} (hw : w < 3) : CX s (qs s 0) (nI (st (y_W s w)).2.1) mX9_start [.int (nI w), .int (nI 0)] := by
  have key : ∀ k, k < 4 → k = 0 → CX s (qs s 0) (nI (st (y_W s w)).2.1) mX9_start [.int (nI w), .int (nI k)] := by
    intro k hk ek
    have hG := hs.1 w hw
    have h7 := hG.2.1.2
    have hst := st_cwf hG
    have hq7 := cwf_le hst
    have cls : ∀ (g : zG) (gr : Bool) (d : Nat) (m : zm) (Q : Option Value → zH → Prop), CR s m → (∀ m', CR s m' → fC m m' → pC m' 147 (gn (y_W s w)) (st (y_W s w)).1 (st (y_W s w)).2.1 → m'.1 147 1 = nI (st (y_W s w)).2.2 → WP g gr (d + 4) mX9_start 0 0 50 [.ref 1, .retAddr 0, .int (nI k), .retAddr 0, .int (nI (q0 (y_W s w)))] [] (mk m') Q) → Ok g gr (d + 4) mX9_start 0 0 [.ref 1, .int (nI w), .int (nI k)] (mk m) Q := by
      intro g gr d m Q hc HH
      have hp := hc.1.1 w hw
      refine b_X9_start_0 (rg_y hw ⟨pk_in w 3 hw, rh_y (n := 3) hk ?_⟩)
      rw [cw (by omega)]
      refine k_byColours a_147 (s272 hw) hG hp (by omega) (fun m1 a1 _ _ a4 => ?_)
      refine b_X9_start_33 (s272 hw) ?_
      rw [a1.1]
      refine k_refine a_147 (s272 hw) (by omega) hG (pG_fz hp a4 (by omega)) (by omega) (c0_cwf hG.1) (q0_pos hG) a1 (fun m2 b1 b2 b3 => ?_)
      exact HH m2 (CR_fz (CR_fz hc a4 (by omega)) b3 (by omega)) (fC_trans (fC_fz a4 (by omega)) (fC_fz b3 (by omega))) b1 b2
    subst ek
    intro g gr e m Q he hc K
    obtain ⟨d, rfl⟩ := dn (show 4 ≤ e by omega)
    refine cls g gr d m Q hc (fun m' a1 a2 b1 b2 => b_X9_start_50 ⟨fun _ => ?_, fun z => absurd z (by decide), fun z => absurd z (by decide), fun z => absurd rfl z.1⟩)
    rw [b1.1]
    exact K _ (CR_t a1) (fC_trans a2 fC_t)
  exact key 0 (by decide) rfl
theorem y_start_r {s : Sg} (hs : sOK s) {w : Nat} (hw : w < 3) : CX s (qs s 0) (nI (st (y_W s w)).2.2) mX9_start [.int (nI w), .int (nI 1)] := by
  have key : ∀ k, k < 4 → k = 1 → CX s (qs s 0) (nI (st (y_W s w)).2.2) mX9_start [.int (nI w), .int (nI k)] := by
    intro k hk ek
    have hG := hs.1 w hw
    have h7 := hG.2.1.2
    have hst := st_cwf hG
    have hq7 := cwf_le hst
    have cls : ∀ (g : zG) (gr : Bool) (d : Nat) (m : zm) (Q : Option Value → zH → Prop), CR s m → (∀ m', CR s m' → fC m m' → pC m' 147 (gn (y_W s w)) (st (y_W s w)).1 (st (y_W s w)).2.1 → m'.1 147 1 = nI (st (y_W s w)).2.2 → WP g gr (d + 4) mX9_start 0 0 50 [.ref 1, .retAddr 0, .int (nI k), .retAddr 0, .int (nI (q0 (y_W s w)))] [] (mk m') Q) → Ok g gr (d + 4) mX9_start 0 0 [.ref 1, .int (nI w), .int (nI k)] (mk m) Q := by
      intro g gr d m Q hc HH
      have hp := hc.1.1 w hw
      refine b_X9_start_0 (rg_y hw ⟨pk_in w 3 hw, rh_y (n := 3) hk ?_⟩)
      rw [cw (by omega)]
      refine k_byColours a_147 (s272 hw) hG hp (by omega) (fun m1 a1 _ _ a4 => ?_)
      refine b_X9_start_33 (s272 hw) ?_
      rw [a1.1]
      refine k_refine a_147 (s272 hw) (by omega) hG (pG_fz hp a4 (by omega)) (by omega) (c0_cwf hG.1) (q0_pos hG) a1 (fun m2 b1 b2 b3 => ?_)
      exact HH m2 (CR_fz (CR_fz hc a4 (by omega)) b3 (by omega)) (fC_trans (fC_fz a4 (by omega)) (fC_fz b3 (by omega))) b1 b2
    subst ek
    intro g gr e m Q he hc K
    obtain ⟨d, rfl⟩ := dn (show 4 ≤ e by omega)
    refine cls g gr d m Q hc (fun m' a1 a2 b1 b2 => b_X9_start_50 ⟨fun z => absurd z (by decide), fun _ => ?_, fun z => absurd z (by decide), fun z => absurd rfl z.2.1⟩)
    rw [b2]
    exact K _ (CR_t a1) (fC_trans a2 fC_t)
  exact key 1 (by decide) rfl
theorem y_start_c {s : Sg} (hs : sOK s) {w : Nat} (hw : w < 3) : CX s (qs s 0) (nI (q0 (y_W s w))) mX9_start [.int (nI w), .int (nI 2)] := by
  have key : ∀ k, k < 4 → k = 2 → CX s (qs s 0) (nI (q0 (y_W s w))) mX9_start [.int (nI w), .int (nI k)] := by
    intro k hk ek
    have hG := hs.1 w hw
    have h7 := hG.2.1.2
    have hst := st_cwf hG
    have hq7 := cwf_le hst
    have cls : ∀ (g : zG) (gr : Bool) (d : Nat) (m : zm) (Q : Option Value → zH → Prop), CR s m → (∀ m', CR s m' → fC m m' → pC m' 147 (gn (y_W s w)) (st (y_W s w)).1 (st (y_W s w)).2.1 → m'.1 147 1 = nI (st (y_W s w)).2.2 → WP g gr (d + 4) mX9_start 0 0 50 [.ref 1, .retAddr 0, .int (nI k), .retAddr 0, .int (nI (q0 (y_W s w)))] [] (mk m') Q) → Ok g gr (d + 4) mX9_start 0 0 [.ref 1, .int (nI w), .int (nI k)] (mk m) Q := by
      intro g gr d m Q hc HH
      have hp := hc.1.1 w hw
      refine b_X9_start_0 (rg_y hw ⟨pk_in w 3 hw, rh_y (n := 3) hk ?_⟩)
      rw [cw (by omega)]
      refine k_byColours a_147 (s272 hw) hG hp (by omega) (fun m1 a1 _ _ a4 => ?_)
      refine b_X9_start_33 (s272 hw) ?_
      rw [a1.1]
      refine k_refine a_147 (s272 hw) (by omega) hG (pG_fz hp a4 (by omega)) (by omega) (c0_cwf hG.1) (q0_pos hG) a1 (fun m2 b1 b2 b3 => ?_)
      exact HH m2 (CR_fz (CR_fz hc a4 (by omega)) b3 (by omega)) (fC_trans (fC_fz a4 (by omega)) (fC_fz b3 (by omega))) b1 b2
    subst ek
    intro g gr e m Q he hc K
    obtain ⟨d, rfl⟩ := dn (show 4 ≤ e by omega)
    refine cls g gr d m Q hc (fun m' a1 a2 b1 b2 => b_X9_start_50 ⟨fun z => absurd z (by decide), fun z => absurd z (by decide), fun _ => ?_, fun z => absurd rfl z.2.2⟩)
    exact K _ (CR_t a1) (fC_trans a2 fC_t)
  exact key 2 (by decide) rfl
theorem y_start_t {s : Sg} (hs : sOK s) {w : Nat} (hw : w < 3) : CX s (qs s 0) (nI (tgm (st (y_W s w)).1 (gn (y_W s w)) (st (y_W s w)).2.1)) mX9_start [.int (nI w), .int (nI 3)] := by
  have key : ∀ k, k < 4 → k = 3 → CX s (qs s 0) (nI (tgm (st (y_W s w)).1 (gn (y_W s w)) (st (y_W s w)).2.1)) mX9_start [.int (nI w), .int (nI k)] := by
    intro k hk ek
    have hG := hs.1 w hw
    have h7 := hG.2.1.2
    have hst := st_cwf hG
    have hq7 := cwf_le hst
    have cls : ∀ (g : zG) (gr : Bool) (d : Nat) (m : zm) (Q : Option Value → zH → Prop), CR s m → (∀ m', CR s m' → fC m m' → pC m' 147 (gn (y_W s w)) (st (y_W s w)).1 (st (y_W s w)).2.1 → m'.1 147 1 = nI (st (y_W s w)).2.2 → WP g gr (d + 4) mX9_start 0 0 50 [.ref 1, .retAddr 0, .int (nI k), .retAddr 0, .int (nI (q0 (y_W s w)))] [] (mk m') Q) → Ok g gr (d + 4) mX9_start 0 0 [.ref 1, .int (nI w), .int (nI k)] (mk m) Q := by
      intro g gr d m Q hc HH
      have hp := hc.1.1 w hw
      refine b_X9_start_0 (rg_y hw ⟨pk_in w 3 hw, rh_y (n := 3) hk ?_⟩)
      rw [cw (by omega)]
      refine k_byColours a_147 (s272 hw) hG hp (by omega) (fun m1 a1 _ _ a4 => ?_)
      refine b_X9_start_33 (s272 hw) ?_
      rw [a1.1]
      refine k_refine a_147 (s272 hw) (by omega) hG (pG_fz hp a4 (by omega)) (by omega) (c0_cwf hG.1) (q0_pos hG) a1 (fun m2 b1 b2 b3 => ?_)
      exact HH m2 (CR_fz (CR_fz hc a4 (by omega)) b3 (by omega)) (fC_trans (fC_fz a4 (by omega)) (fC_fz b3 (by omega))) b1 b2
    subst ek
    intro g gr e m Q he hc K
    obtain ⟨d, rfl⟩ := dn (show 4 ≤ e by omega)
    refine cls g gr d m Q hc (fun m' a1 a2 b1 b2 => b_X9_start_50 ⟨fun z => absurd z (by decide), fun z => absurd z (by decide), fun z => absurd z (by decide), fun _ => ?_⟩)
    refine k_target a_147 (by omega) h7 b1 (by omega) ?_
    exact b_X9_start_115 (K _ (CR_t a1) (fC_trans a2 fC_t))
  exact key 3 (by decide) rfl
theorem y_cell {s : Sg} (hs : sOK s) {w : Nat} (hw : w < 3) {j : Nat} (hj : j < (st (y_W s w)).2.1) : CX s (qs s 0) (nI (bm (fun v => (st (y_W s w)).1 v == j) (gn (y_W s w)))) mX9_cell [.int (nI w), .int (nI j)] := by
  have key : ∀ l2 : Int32, l2 = nI j → CX s (qs s 0) (nI (bm (fun v => (st (y_W s w)).1 v == j) (gn (y_W s w)))) mX9_cell [.int (nI w), .int l2] := by
    intro l2 el2
    have hG := hs.1 w hw
    have h7 := hG.2.1.2
    have hst := st_cwf hG
    have hq7 := cwf_le hst
    have cls : ∀ (g : zG) (gr : Bool) (d : Nat) (m : zm) (Q : Option Value → zH → Prop), CR s m → (∀ m', CR s m' → fC m m' → pC m' 147 (gn (y_W s w)) (st (y_W s w)).1 (st (y_W s w)).2.1 → WP g gr (d + 5) mX9_cell 0 0 24 [.ref 1, .retAddr 0, .int l2, .retAddr 0] [] (mk m') Q) → Ok g gr (d + 5) mX9_cell 0 0 [.ref 1, .int (nI w), .int l2] (mk m) Q := by
      intro g gr d m Q hc HH
      have hp := hc.1.1 w hw
      refine b_X9_cell_0 (rg_y hw ⟨pk_in w 3 hw, ?_⟩)
      rw [cw (by omega)]
      exact k_begin a_147 (s272 hw) (by omega) hG hp (by omega) (fun m1 a1 _ a4 => HH m1 (CR_fz hc a4 (by omega)) (fC_fz a4 (by omega)) a1)
    subst el2
    intro g gr e m Q he hc K
    obtain ⟨d, rfl⟩ := dn (show 5 ≤ e by omega)
    refine cls g gr d m Q hc (fun m' a1 a2 b1 => b_X9_cell_24 (rl_y hj ⟨pk_in j 7 (by omega), ?_⟩ b1.1))
    rw [cw (by omega), b1.2 j hj]
    exact K _ (CR_t a1) (fC_trans a2 fC_t)
  exact key _ rfl
theorem y_cell_x {s : Sg} (hs : sOK s) {w : Nat} (hw : w < 3) {l2 : Int32} (h2 : l2 < 0 ∨ (¬ l2 < 0 ∧ nI (st (y_W s w)).2.1 ≤ l2)) : CX s (qs s 1) (-1) mX9_cell [.int (nI w), .int l2] := by
  have hG := hs.1 w hw
  have h7 := hG.2.1.2
  have hst := st_cwf hG
  have hq7 := cwf_le hst
  have cls : ∀ (g : zG) (gr : Bool) (d : Nat) (m : zm) (Q : Option Value → zH → Prop), CR s m → (∀ m', CR s m' → fC m m' → pC m' 147 (gn (y_W s w)) (st (y_W s w)).1 (st (y_W s w)).2.1 → WP g gr (d + 5) mX9_cell 0 0 24 [.ref 1, .retAddr 0, .int l2, .retAddr 0] [] (mk m') Q) → Ok g gr (d + 5) mX9_cell 0 0 [.ref 1, .int (nI w), .int l2] (mk m) Q := by
    intro g gr d m Q hc HH
    have hp := hc.1.1 w hw
    refine b_X9_cell_0 (rg_y hw ⟨pk_in w 3 hw, ?_⟩)
    rw [cw (by omega)]
    exact k_begin a_147 (s272 hw) (by omega) hG hp (by omega) (fun m1 a1 _ a4 => HH m1 (CR_fz hc a4 (by omega)) (fC_fz a4 (by omega)) a1)
  intro g gr e m Q he hc K
  obtain ⟨d, rfl⟩ := dn (show 5 ≤ e by omega)
  exact cls g gr d m Q hc (fun m' a1 a2 b1 => b_X9_cell_24 (rl_n h2 (K _ (CR_t a1) (fC_trans a2 fC_t)) b1.1))
end ZAs
