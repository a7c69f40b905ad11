/-! questions on cells and links -/
theorem ct_beyond {p : Nat → Bool} {n : Nat} : ∀ t, (∀ i, n ≤ i → p i = false) → fb_ct p (n + t) = fb_ct p n := by
  intro t
  induction t with
  | zero => intro _; rfl
  | succ t ih =>
    intro h
    have e : fb_ct p (n + t + 1) = fb_ct p (n + t) + (if p (n + t) = true then 1 else 0) := fb_ct_succ _ _
    rw [show n + (t + 1) = n + t + 1 from rfl, e, ih h, h (n + t) (by omega)]; rfl
theorem lk_out {G : Gr} (hG : gWF G) (k v : Nat) {b : Nat} (h : gn G ≤ b) : lk k (gk G v b) = false := by
  rw [hG.1.2.2.1 v b, hG.2.2.2 b v h]
  unfold lk
  by_cases z : k = 0
  · rw [if_pos z]; rfl
  · rw [if_neg z]; exact bq_f (fun y => z y.symm)
theorem lk_n {G : Gr} (hG : gWF G) (k v : Nat) : fb_ct (fun b => lk k (gk G v b)) 7 = fb_ct (fun b => lk k (gk G v b)) (gn G) := by
  have h7 := hG.2.1.2
  have := ct_beyond (p := fun b => lk k (gk G v b)) (n := gn G) (7 - gn G) (fun i hi => lk_out hG k v hi)
  rw [show gn G + (7 - gn G) = 7 by omega] at this
  exact this
theorem dgr_le {G : Gr} {v : Nat} : dgr G v ≤ 7 := fb_ct_le _ 7
section ZAs
variable {g : zG} {gr : Bool} {e : Nat} {m : zm} {Q : Option Value → zH → Prop}
theorem d_ones {a : Nat} (ha : a < 128) (K : Q (some (.int (nI (fb_ct a.testBit 7)))) (mk m)) : Ok g gr e mX10_ones 0 0 [.int (nI a)] (mk m) Q := by
  refine b_X10_ones_0 (d := e) (up_to (n := 7) (P := fun k => WP g gr e mX10_ones 0 0 4 [.int (nI a), .int (nI (fb_ct a.testBit k)), .int (nI k)] [] (mk m) Q) ?_ (fun k hk ih => ?_) 0 (Nat.zero_le _))
  · exact b_X10_ones_4 (d := e) (pk_le 7 7 (fun _ => K) (fun z => absurd z (Nat.lt_irrefl _)))
  · refine b_X10_ones_4 (d := e) (pk_le 7 k (fun z => by omega) (fun _ => ?_))
    have h1 : a / 2 ^ k ≤ a := Nat.div_le_self _ _
    have es : fb_ct a.testBit (k + 1) = fb_ct a.testBit k + (if a.testBit k = true then 1 else 0) := fb_ct_succ _ _
    have hb : a / 2 ^ k % 2 ^ 1 = (if a.testBit k = true then 1 else 0) := by
      rw [Nat.testBit_eq_decide_div_mod_eq, Nat.pow_one]
      by_cases z : a / 2 ^ k % 2 = 1
      · rw [z, if_pos (by simp)]
      · rw [if_neg (by simpa using z)]; omega
    rw [pk_shrN (by omega) _ k (s_l k (by omega)), pk_andN (m := 1) (show a / 2 ^ k < 2 ^ 32 by omega) 1 (by decide), nI_1, nI_add, hb, ← es]
    exact ih
theorem d_rowOf {G : Gr} {w v : Nat} (he : 1 ≤ e) (hG : gWF G) (hw : w < 3) (hp : pW m w G) (hv : v < gn G) (K : Q (some (.int (nI (bm (fun b => lk 0 (gk G v b)) (gn G))))) (mk m)) : Ok g gr e mX10_rowOf 0 0 [.ref 810, .int (nI w), .int (nI v)] (mk m) Q := by
  obtain ⟨d, rfl⟩ := dn he
  have h7 := hG.2.1.2
  refine b_X10_rowOf_0 (up_to (n := gn G) (P := fun b => WP g gr (d + 1) mX10_rowOf 0 0 5 [.ref 810, .int (nI w), .int (nI v), .int (nI (bm (fun b => lk 0 (gk G v b)) b)), .int (nI b)] [] (mk m) Q) ?_ (fun b hb ih => ?_) 0 (Nat.zero_le _))
  · refine b_X10_rowOf_5 ?_
    rw [e57, c57 hw]
    exact ⟨v57 hw, pk_le (gn G) (gn G) (fun _ => K) (fun z => absurd z (Nat.lt_irrefl _)) hp.1⟩
  · refine b_X10_rowOf_5 ?_
    rw [e57, c57 hw]
    refine ⟨v57 hw, pk_le (gn G) b (fun z => by omega) (fun _ => ?_) hp.1⟩
    have hk := hG.1.2.1 v b
    rw [show (8 : Int32) = nI 8 from rfl, show (7 : Int32) = nI 7 from rfl, pk_mul, nI_add, nI_add, nI_add, cw (show 57 * w + 8 + 7 * v + b < 2 ^ 31 by omega), hp.2.2 v b (by omega) (by omega), show (0 : Int32) = nI 0 from rfl, nI_eq (by omega) (by decide), fa_or, i_sh1 (by omega), fa_or, nI_1, Nat.or_zero]
    refine ⟨pk_in (57 * w + 8 + 7 * v + b) 171 (by omega), fun z => ?_, fun z => ?_⟩
    · rw [← bm_skip (p := fun b => lk 0 (gk G v b)) (show lk 0 (gk G v b) = false by rw [z]; rfl)]; exact ih
    · rw [bm_put (p := fun b => lk 0 (gk G v b)) (show lk 0 (gk G v b) = true by unfold lk; rw [if_pos rfl, bq_f z]; rfl)]; exact ih
theorem d_degOf {G : Gr} {w v : Nat} {Q' : Option Value → zH → Prop} (hG : gWF G) (K : Q' (some (.int (nI (dgr G v)))) (mk m)) : Ok g gr e mX10_ones 0 0 [.int (nI (bm (fun b => lk 0 (gk G v b)) (gn G)))] (mk m) Q' := by
  refine d_ones (bm_7 hG.2.1.2) ?_
  rw [bm_ct hG.2.1.2, ← lk_n hG]
  exact K
theorem d_linksOf {G : Gr} {w : Nat} (he : 2 ≤ e) (hG : gWF G) (hw : w < 3) (hp : pW m w G) (K : Q (some (.int (nI (fb_sm (dgr G) (gn G) / 2)))) (mk m)) : Ok g gr e mX10_linksOf 0 0 [.ref 810, .int (nI w)] (mk m) Q := by
  obtain ⟨d, rfl⟩ := dn he
  have h7 := hG.2.1.2
  have hsm : ∀ k, fb_sm (dgr G) k ≤ 7 * k := fun k => by
    induction k with
    | zero => exact Nat.zero_le _
    | succ k ih => rw [fb_sm_succ]; have := dgr_le (G := G) (v := k); omega
  refine b_X10_linksOf_0 (up_to (n := gn G) (P := fun v => WP g gr (d + 2) mX10_linksOf 0 0 4 [.ref 810, .int (nI w), .int (nI (fb_sm (dgr G) v)), .int (nI v)] [] (mk m) Q) ?_ (fun v hv ih => ?_) 0 (Nat.zero_le _))
  · refine b_X10_linksOf_4 ?_
    rw [e57, c57 hw]
    refine ⟨v57 hw, pk_le (gn G) (gn G) (fun _ => ?_) (fun z => absurd z (Nat.lt_irrefl _)) hp.1⟩
    have := hsm (gn G)
    rw [show (2 : Int32) = nI 2 from rfl, pk_div (by omega) (by decide) (by decide)]
    exact K
  · refine b_X10_linksOf_4 ?_
    rw [e57, c57 hw]
    refine ⟨v57 hw, pk_le (gn G) v (fun z => by omega) (fun _ => ?_) hp.1⟩
    refine d_rowOf (by omega) hG hw hp hv (b_X10_linksOf_20 (d_degOf (w := w) hG (b_X10_linksOf_23 ?_)))
    rw [nI_add, nI_1]
    exact ih
theorem d_coloursOf {G : Gr} {w : Nat} (he : 1 ≤ e) (hG : gWF G) (hw : w < 3) (hp : pW m w G) (K : Q (some (.int (nI (q0 G)))) (mk m)) : Ok g gr e mX10_coloursOf 0 0 [.ref 810, .int (nI w)] (mk m) Q := by
  obtain ⟨d, rfl⟩ := dn he
  have h7 := hG.2.1.2
  let S : Nat → Nat := fun v => bm (fun k => !(fb_ct (fun u => gc G u == k) v == 0)) 10
  have hS : ∀ v, S v < 2 ^ 10 := fun v => bm_lt _ 10
  have hS1 : ∀ v, S (v + 1) = S v ||| 2 ^ gc G v := fun v => by
    show bm _ 10 = bm _ 10 ||| _
    rw [bm_add (hG.1.1 v)]
    refine bm_cong fun k _ => ?_
    have es : fb_ct (fun u => gc G u == k) (v + 1) = fb_ct (fun u => gc G u == k) v + (if (gc G v == k) = true then 1 else 0) := fb_ct_succ _ _
    by_cases z : gc G v = k
    · rw [es, bq_t z, bq_t z.symm, bq_f (show fb_ct (fun u => gc G u == k) v + (if true = true then 1 else 0) ≠ 0 by rw [if_pos rfl]; omega)]; simp
    · rw [es, bq_f z, bq_f (fun y => z y.symm)]; simp
  refine b_X10_coloursOf_0 (up_to (n := gn G) (P := fun v => WP g gr (d + 1) mX10_coloursOf 0 0 4 [.ref 810, .int (nI w), .int (nI (S v)), .int (nI v), .retAddr 0] [] (mk m) Q) ?_ (fun v hv ih => ?_) 0 (Nat.zero_le _))
  · refine b_X10_coloursOf_4 ?_
    rw [e57, c57 hw]
    refine ⟨v57 hw, pk_le (gn G) (gn G) (fun _ => ?_) (fun z => absurd z (Nat.lt_irrefl _)) hp.1⟩
    refine up_to (n := 10) (P := fun k => WP g gr (d + 1) mX10_coloursOf 0 0 35 [.retAddr 0, .retAddr 0, .int (nI (S (gn G))), .int (nI (fb_ct (oc G) k)), .int (nI k)] [] (mk m) Q) ?_ (fun k hk ih => ?_) 0 (Nat.zero_le _)
    · exact b_X10_coloursOf_35 (pk_le 10 10 (fun _ => K) (fun z => absurd z (Nat.lt_irrefl _)))
    · refine b_X10_coloursOf_35 (pk_le 10 k (fun z => by omega) (fun _ => ?_))
      have hs := hS (gn G)
      have h1 : S (gn G) / 2 ^ k ≤ S (gn G) := Nat.div_le_self _ _
      have es : fb_ct (oc G) (k + 1) = fb_ct (oc G) k + (if oc G k = true then 1 else 0) := fb_ct_succ _ _
      have hbit : (S (gn G)).testBit k = oc G k := by
        show (bm _ 10).testBit k = _
        rw [bm_bit, decide_eq_true hk, Bool.true_and, Bool.eq_iff_iff, Bool.not_eq_true', beq_eq_false_iff_ne, oc_iff]
        constructor
        · intro h
          obtain ⟨u, u1, u2⟩ := fb_ct_pos.mp (show 0 < fb_ct (fun u => gc G u == k) (gn G) by omega)
          exact ⟨u, u1, by simpa using u2⟩
        · rintro ⟨u, u1, u2⟩
          have := (fb_ct_pos (p := fun u => gc G u == k)).mpr ⟨u, u1, bq_t u2⟩
          omega
      have hb : S (gn G) / 2 ^ k % 2 ^ 1 = (if oc G k = true then 1 else 0) := by
        rw [← hbit, Nat.testBit_eq_decide_div_mod_eq, Nat.pow_one]
        by_cases z : S (gn G) / 2 ^ k % 2 = 1
        · rw [z, if_pos (by simp)]
        · rw [if_neg (by simpa using z)]; omega
      rw [pk_shrN (by omega) _ k (s_l k (by omega)), pk_andN (m := 1) (show S (gn G) / 2 ^ k < 2 ^ 32 by omega) 1 (by decide), nI_1, nI_add, hb, ← es]
      exact ih
  · refine b_X10_coloursOf_4 ?_
    rw [e57, c57 hw]
    refine ⟨v57 hw, pk_le (gn G) v (fun z => by omega) (fun _ => ?_) hp.1⟩
    have hc := hG.1.1 v
    rw [show (1 : Int32) = nI 1 from rfl, nI_add, nI_add, cw (show 57 * w + 1 + v < 2 ^ 31 by omega), hp.2.1 v (by omega), show nI 1 = (1 : Int32) from rfl, i_sh1 (by omega), fa_or, nI_1, ← hS1]
    exact ⟨pk_in (57 * w + 1 + v) 171 (by omega), ih⟩
theorem x_graph {s : Sg} (hs : sOK s) (l1 l2 : Int32) : BX s mX9_graph mX10_graph [.int l1, .int l2] := by
  rcases i_case l1 3 (by decide) with h | ⟨w, hw, rfl⟩
  · refine ⟨qs s 1, -1, sOK_qs hs 1, fun g gr e m Q he hc K => ?_, fun g gr e m Q he hm K => ?_⟩
    · obtain ⟨d, rfl⟩ := dn (show 2 ≤ e by omega)
      exact b_X9_graph_0 (rg_n h (K _ (CR_t hc) fC_t))
    · obtain ⟨d, rfl⟩ := dn (show 3 ≤ e by omega)
      refine b_X10_graph_0 ?_
      rintro m1 rfl
      exact ite_n (isG_n h) (m_no hm K)
  · have hG := hs.1 w hw
    have h7 := hG.2.1.2
    rcases i_case l2 4 (by decide) with h2 | ⟨k, hk, rfl⟩
    · refine ⟨qs s 1, -1, sOK_qs hs 1, fun g gr e m Q he hc K => ?_, fun g gr e m Q he hm K => ?_⟩
      · obtain ⟨d, rfl⟩ := dn (show 2 ≤ e by omega)
        exact b_X9_graph_0 (rg_y hw ⟨pk_in w 3 hw, rh_n (n := 3) h2 (K _ (CR_t hc) fC_t)⟩)
      · obtain ⟨d, rfl⟩ := dn (show 3 ≤ e by omega)
        refine b_X10_graph_0 ?_
        rintro m1 rfl
        exact ite_y (isG_y hw) (ite_n (in_n (n := 3) (by decide) h2) (m_no hm K))
    · have cls : ∀ (g : zG) (gr : Bool) (d : Nat) (m : zm) (Q : Option Value → zH → Prop), CR s m → _ → Ok g gr (d + 2) mX9_graph 0 0 [.ref 1, .int (nI w), .int (nI k)] (mk m) Q := fun g gr d m Q hc HH => b_X9_graph_0 (rg_y hw ⟨pk_in w 3 hw, rh_y (n := 3) hk HH⟩)
      rcases (show k = 0 ∨ k = 1 ∨ k = 2 ∨ k = 3 by omega) with rfl | rfl | rfl | rfl
      · refine ⟨qs s 0, nI (gn (y_W s w)), sOK_qs hs 0, fun g gr e m Q he hc K => ?_, fun g gr e m Q he hm K => ?_⟩
        · obtain ⟨d, rfl⟩ := dn (show 2 ≤ e by omega)
          refine cls g gr d m Q hc ⟨fun _ => ?_, fun z => absurd z (by decide), fun z => absurd z (by decide), fun z => absurd rfl z.1⟩
          rw [cw (by omega), W_n hc hw]
          exact K _ (CR_t hc) fC_t
        · obtain ⟨d, rfl⟩ := dn (show 3 ≤ e by omega)
          have hb := MR_b hm
          refine b_X10_graph_0 ?_
          rintro m1 rfl
          refine ite_y (isG_y hw) (ite_y (in_y (n := 3) (by omega) (by decide)) ⟨MR_1 hb, fun _ => ?_, fun z => absurd z (by decide), fun z => absurd z (by decide), fun z => absurd rfl z.1⟩)
          rw [e57, c57 hw, (hb.1 w hw).1]
          exact ⟨v57 hw, K _ hb fX_b⟩
      · refine ⟨qs s 0, nI (fb_sm (dgr (y_W s w)) (gn (y_W s w)) / 2), sOK_qs hs 0, fun g gr e m Q he hc K => ?_, fun g gr e m Q he hm K => ?_⟩
        · obtain ⟨d, rfl⟩ := dn (show 2 ≤ e by omega)
          refine cls g gr d m Q hc ⟨fun z => absurd z (by decide), fun _ => ?_, fun z => absurd z (by decide), fun z => absurd rfl z.2.1⟩
          rw [cw (by omega)]
          exact k_links (s272 hw) (by omega) h7 (hc.1.1 w hw) (b_X9_graph_66 (K _ (CR_t hc) fC_t))
        · obtain ⟨d, rfl⟩ := dn (show 3 ≤ e by omega)
          have hb := MR_b hm
          refine b_X10_graph_0 ?_
          rintro m1 rfl
          refine ite_y (isG_y hw) (ite_y (in_y (n := 3) (by omega) (by decide)) ⟨MR_1 hb, fun z => absurd z (by decide), fun _ => ?_, fun z => absurd z (by decide), fun z => absurd rfl z.2.1⟩)
          exact d_linksOf (by omega) hG hw (hb.1 w hw) (b_X10_graph_75 (K _ hb fX_b))
      · refine ⟨qs s 0, nI (q0 (y_W s w)), sOK_qs hs 0, fun g gr e m Q he hc K => ?_, fun g gr e m Q he hm K => ?_⟩
        · obtain ⟨d, rfl⟩ := dn (show 2 ≤ e by omega)
          refine cls g gr d m Q hc ⟨fun z => absurd z (by decide), fun z => absurd z (by decide), fun _ => ?_, fun z => absurd rfl z.2.2⟩
          rw [cw (by omega)]
          refine k_byColours a_147 (s272 hw) hG (hc.1.1 w hw) (by omega) (fun m1 a1 _ _ a4 => b_X9_graph_78 ?_)
          rw [a1.1]
          exact K _ (CR_t (CR_fz hc a4 (by omega))) (fC_trans (fC_fz a4 (by omega)) fC_t)
        · obtain ⟨d, rfl⟩ := dn (show 3 ≤ e by omega)
          have hb := MR_b hm
          refine b_X10_graph_0 ?_
          rintro m1 rfl
          refine ite_y (isG_y hw) (ite_y (in_y (n := 3) (by omega) (by decide)) ⟨MR_1 hb, fun z => absurd z (by decide), fun z => absurd z (by decide), fun _ => ?_, fun z => absurd rfl z.2.2⟩)
          exact d_coloursOf (by omega) hG hw (hb.1 w hw) (b_X10_graph_81 (K _ hb fX_b))
      · refine ⟨qs s 0, nI (mxl (y_W s w) (gn (y_W s w))), sOK_qs hs 0, fun g gr e m Q he hc K => ?_, fun g gr e m Q he hm K => ?_⟩
        · obtain ⟨d, rfl⟩ := dn (show 2 ≤ e by omega)
          refine cls g gr d m Q hc ⟨fun z => absurd z (by decide), fun z => absurd z (by decide), fun z => absurd z (by decide), fun _ => ?_⟩
          rw [cw (by omega)]
          exact k_mostLinks (s272 hw) (by omega) h7 (hc.1.1 w hw) (b_X9_graph_95 (K _ (CR_t hc) fC_t))
        · obtain ⟨d, rfl⟩ := dn (show 3 ≤ e by omega)
          have hb := MR_b hm
          have hp := hb.1 w hw
          have hmx : ∀ k, mxl (y_W s w) k ≤ 7 := fun k => by
            induction k with
            | zero => exact Nat.zero_le _
            | succ k ih =>
              show (if _ then _ else _) ≤ 7
              split
              · exact dgr_le
              · exact ih
          refine b_X10_graph_0 ?_
          rintro m1 rfl
          refine ite_y (isG_y hw) (ite_y (in_y (n := 3) (by omega) (by decide)) ⟨MR_1 hb, fun z => absurd z (by decide), fun z => absurd z (by decide), fun z => absurd z (by decide), fun _ => ?_⟩)
          refine up_to (n := gn (y_W s w)) (P := fun v => WP g gr (d + 3) mX10_graph 0 0 87 [.ref 810, .int (nI w), .retAddr 0, .int (nI (mxl (y_W s w) v)), .int (nI v), .retAddr 0] [] (mk (wBegins m)) Q) ?_ (fun v hv ih => ?_) 0 (Nat.zero_le _)
          · refine b_X10_graph_87 ?_
            rw [e57, c57 hw]
            exact ⟨v57 hw, pk_le (gn (y_W s w)) (gn (y_W s w)) (fun _ => K _ hb fX_b) (fun z => absurd z (Nat.lt_irrefl _)) hp.1⟩
          · refine b_X10_graph_87 ?_
            rw [e57, c57 hw]
            refine ⟨v57 hw, pk_le (gn (y_W s w)) v (fun z => by omega) (fun _ => ?_) hp.1⟩
            have e1 : mxl (y_W s w) (v + 1) = if mxl (y_W s w) v < dgr (y_W s w) v then dgr (y_W s w) v else mxl (y_W s w) v := rfl
            have b1 := hmx v
            have b2 := dgr_le (G := y_W s w) (v := v)
            refine d_rowOf (by omega) hG hw hp hv (b_X10_graph_104 (d_degOf (w := w) hG (b_X10_graph_107 ?_)))
            rw [nI_1]
            refine pk_le (dgr (y_W s w) v) (mxl (y_W s w) v) (fun z => ?_) (fun z => ?_)
            · rw [e1, if_neg (by omega)] at ih; exact ih
            · rw [e1, if_pos z] at ih; exact ih
end ZAs
