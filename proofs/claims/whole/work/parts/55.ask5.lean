/-! questions on symmetries and on two graphs -/
theorem rg_any {l : Int32} {A : Prop} (a : A) : (l < 0 → A) ∧ (¬ l < 0 → ((3 : Int32) ≤ l → A) ∧ (¬ (3 : Int32) ≤ l → vp_in l 3 ∧ A)) := by
  refine ⟨fun _ => a, fun h => ⟨fun _ => a, fun h3 => ⟨?_, a⟩⟩⟩
  obtain ⟨k, hk, rfl⟩ := i_neg h
  refine pk_in k 3 ?_
  rcases Nat.lt_or_ge k 3 with z | z
  · exact z
  · exact absurd (show (3 : Int32) ≤ nI k from nI_le z hk) h3
theorem all_y {m : zm} {o k n : Nat} (hk : k < 2 ^ n) (hn : n ≤ 7) (hp : m.1 o 0 = nI n) : tX1_hasAll m o (nI k) := by
  have h2 : 2 ^ n ≤ 2 ^ 7 := Nat.pow_le_pow_right (by decide) hn
  refine ⟨i_nn (by omega), ?_⟩
  rw [hp, i_sh1 (by omega)]
  exact nI_ge hk (by omega)
theorem all_n {m : zm} {o n : Nat} {l : Int32} (h : l < 0 ∨ (¬ l < 0 ∧ nI (2 ^ n) ≤ l)) (hn : n ≤ 7) (hp : m.1 o 0 = nI n) : ¬ tX1_hasAll m o l := by
  rintro ⟨a, b⟩
  rw [hp, i_sh1 (by omega)] at b
  rcases h with h | h
  · exact a h
  · exact b h.2
theorem p7 {n : Nat} (hn : n ≤ 7) : 2 ^ n ≤ 128 := Nat.pow_le_pow_right (n := 2) (by decide) hn
theorem set_y {X : Int32} {A B C : Prop} {k n : Nat} (hk : k < 2 ^ n) (hn : n ≤ 7) (hX : X = nI n) (c : C) (b : B) : (nI k < 0 → A) ∧ (¬ nI k < 0 → B ∧ (((1 : Int32) <<< (X &&& 31) ≤ nI k → A) ∧ (¬ (1 : Int32) <<< (X &&& 31) ≤ nI k → C))) := by
  have h2 := p7 hn
  refine ⟨fun z => absurd z (i_nn (by omega)), fun _ => ⟨b, ?_⟩⟩
  rw [hX, i_sh1 (by omega)]
  exact ⟨fun z => absurd z (nI_ge hk (by omega)), fun _ => c⟩
theorem set_n {X l : Int32} {A B C : Prop} {n : Nat} (h : l < 0 ∨ (¬ l < 0 ∧ nI (2 ^ n) ≤ l)) (hn : n ≤ 7) (hX : X = nI n) (a : A) (b : B) : (l < 0 → A) ∧ (¬ l < 0 → B ∧ (((1 : Int32) <<< (X &&& 31) ≤ l → A) ∧ (¬ (1 : Int32) <<< (X &&& 31) ≤ l → C))) := by
  refine ⟨fun _ => a, fun z => ⟨b, fun _ => a, fun y => ?_⟩⟩
  rw [hX, i_sh1 (by omega)] at y
  rcases h with h | h
  · exact absurd h z
  · exact absurd h.2 y
section ZAs
theorem x_orbit {s : Sg} (hs : sOK s) (l1 l2 : Int32) : BX s mX9_orbit mX10_orbit [.int l1, .int l2] := by
  rcases i_case l1 3 (by decide) with h | ⟨w, hw, rfl⟩
  · refine ⟨qs s 1, -1, sOK_qs hs 1, fun g gr e m Q he hc K => ?_, fun g gr e m Q he hm K => ?_⟩
    · obtain ⟨d, rfl⟩ := dn (show 13 ≤ e by omega)
      exact b_X9_orbit_0 (rg_n h (K _ (CR_t hc) fC_t))
    · obtain ⟨d, rfl⟩ := dn (show 12 ≤ e by omega)
      refine b_X10_orbit_0 ?_
      rintro m1 rfl
      exact ite_n (isG_n h) (m_no hm K)
  · have hG := hs.1 w hw
    have h7 := hG.2.1.2
    rcases i_case l2 (gn (y_W s w)) (by omega) with h2 | ⟨v, hv, rfl⟩
    · refine ⟨qs s 1, -1, sOK_qs hs 1, fun g gr e m Q he hc K => ?_, fun g gr e m Q he hm K => ?_⟩
      · obtain ⟨d, rfl⟩ := dn (show 13 ≤ e by omega)
        refine b_X9_orbit_0 (rg_y hw ⟨pk_in w 3 hw, ?_⟩)
        rw [cw (by omega)]
        exact ite_n (has_n h2 (W_n hc hw)) (K _ (CR_t hc) fC_t)
      · obtain ⟨d, rfl⟩ := dn (show 12 ≤ e by omega)
        refine b_X10_orbit_0 ?_
        rintro m1 rfl
        refine ite_y (isG_y hw) ?_
        rw [e57, c57 hw]
        exact ⟨v57 hw, ite_n (in1_n h2 ((MR_b hm).1 w hw).1) (m_no hm K)⟩
    · refine ⟨qs s 0, nI (rch (mps (y_W s w) (y_W s w) 0) v), sOK_qs hs 0, fun g gr e m Q he hc K => ?_, fun g gr e m Q he hm K => ?_⟩
      · obtain ⟨d, rfl⟩ := dn (show 13 ≤ e by omega)
        refine b_X9_orbit_0 (rg_y hw ⟨pk_in w 3 hw, ?_⟩)
        rw [cw (by omega)]
        refine ite_y (has_y hv (W_n hc hw)) (k_match (s272 hw) (s272 hw) (by omega) hG hG (stay := 0) (by decide) (hc.1.1 w hw) (hc.1.1 w hw) (by omega) (by omega) (fun m' a1 _ a3 => b_X9_orbit_34 ⟨pk_in v 7 (by omega), ?_⟩))
        rw [cw (by omega), a1.2.1 v hv]
        exact K _ (CR_t (CR_fz hc a3 (by omega))) (fC_trans (fC_fz a3 (by omega)) fC_t)
      · obtain ⟨d, rfl⟩ := dn (show 12 ≤ e by omega)
        have hb := MR_b hm
        refine b_X10_orbit_0 ?_
        rintro m1 rfl
        refine ite_y (isG_y hw) ?_
        rw [e57, c57 hw]
        refine ⟨v57 hw, ite_y (in1_y hv (hb.1 w hw).1) ⟨MR_1 hb, d_laysMaps (stay := 0) (by omega) hG hG hw hw (by decide) (hb.1 w hw) (hb.1 w hw) (fun m' a1 _ a3 => b_X10_orbit_35 ⟨pk_in v 7 (by omega), ?_⟩)⟩⟩
        rw [cw (by omega), a1.2.2.2.1 v hv]
        exact K _ (MR_fM hb a3) (fX_trans fX_b (fX_fM a3))
theorem x_leave {s : Sg} (hs : sOK s) (l1 l2 : Int32) : BX s mX9_leave mX10_leave [.int l1, .int l2] := by
  rcases i_case l1 3 (by decide) with h | ⟨w, hw, rfl⟩
  · refine ⟨qs s 1, -1, sOK_qs hs 1, fun g gr e m Q he hc K => ?_, fun g gr e m Q he hm K => ?_⟩
    · obtain ⟨d, rfl⟩ := dn (show 13 ≤ e by omega)
      exact b_X9_leave_0 (rg_n h (K _ (CR_t hc) fC_t))
    · obtain ⟨d, rfl⟩ := dn (show 12 ≤ e by omega)
      refine b_X10_leave_0 ?_
      rintro m1 rfl
      exact ite_n (isG_n h) (m_no hm K)
  · have hG := hs.1 w hw
    have h7 := hG.2.1.2
    have h27 := p7 h7
    rcases i_case l2 (2 ^ gn (y_W s w)) (by omega) with h2 | ⟨k, hk, rfl⟩
    · refine ⟨qs s 2, -1, sOK_qs hs 2, fun g gr e m Q he hc K => ?_, fun g gr e m Q he hm K => ?_⟩
      · obtain ⟨d, rfl⟩ := dn (show 13 ≤ e by omega)
        refine b_X9_leave_0 (rg_y hw ⟨pk_in w 3 hw, ?_⟩)
        rw [cw (by omega)]
        exact ite_n (all_n h2 h7 (W_n hc hw)) (K _ (CR_t hc) fC_t)
      · obtain ⟨d, rfl⟩ := dn (show 12 ≤ e by omega)
        have hb := MR_b hm
        refine b_X10_leave_0 ?_
        rintro m1 rfl
        refine ite_y (isG_y hw) ⟨MR_1 hb, ?_⟩
        rw [e57, c57 hw]
        exact set_n h2 h7 (hb.1 w hw).1 (m_no hm K).2 (v57 hw)
    · refine ⟨qs s 0, nI (mps (y_W s w) (y_W s w) k).length, sOK_qs hs 0, fun g gr e m Q he hc K => ?_, fun g gr e m Q he hm K => ?_⟩
      · obtain ⟨d, rfl⟩ := dn (show 13 ≤ e by omega)
        refine b_X9_leave_0 (rg_y hw ⟨pk_in w 3 hw, ?_⟩)
        rw [cw (by omega)]
        refine ite_y (all_y hk h7 (W_n hc hw)) (k_match (s272 hw) (s272 hw) (by omega) hG hG (by omega) (hc.1.1 w hw) (hc.1.1 w hw) (by omega) (by omega) (fun m' a1 _ a3 => b_X9_leave_40 ?_))
        rw [a1.1]
        exact K _ (CR_t (CR_fz hc a3 (by omega))) (fC_trans (fC_fz a3 (by omega)) fC_t)
      · obtain ⟨d, rfl⟩ := dn (show 12 ≤ e by omega)
        have hb := MR_b hm
        refine b_X10_leave_0 ?_
        rintro m1 rfl
        refine ite_y (isG_y hw) ⟨MR_1 hb, ?_⟩
        rw [e57, c57 hw]
        refine set_y hk h7 (hb.1 w hw).1 (d_laysMaps (by omega) hG hG hw hw (by omega) (hb.1 w hw) (hb.1 w hw) (fun m' a1 _ a3 => b_X10_leave_55 ?_)) (v57 hw)
        rw [a1.2.1, ← mps_stay]
        exact K _ (MR_fM hb a3) (fX_trans fX_b (fX_fM a3))
theorem x_maps {s : Sg} (hs : sOK s) (l1 l2 : Int32) : BX s mX9_maps mX10_maps [.int l1, .int l2] := by
  rcases i_case l1 3 (by decide) with h | ⟨w, hw, rfl⟩
  · refine ⟨qs s 1, -1, sOK_qs hs 1, fun g gr e m Q he hc K => ?_, fun g gr e m Q he hm K => ?_⟩
    · obtain ⟨d, rfl⟩ := dn (show 13 ≤ e by omega)
      exact b_X9_maps_0 (rg_n h (rg_any (K _ (CR_t hc) fC_t)))
    · obtain ⟨d, rfl⟩ := dn (show 12 ≤ e by omega)
      refine b_X10_maps_0 ?_
      rintro m1 rfl
      exact ite_n (isG_n h) (m_no hm K)
  · rcases i_case l2 3 (by decide) with h2 | ⟨u, hu, rfl⟩
    · refine ⟨qs s 1, -1, sOK_qs hs 1, fun g gr e m Q he hc K => ?_, fun g gr e m Q he hm K => ?_⟩
      · obtain ⟨d, rfl⟩ := dn (show 13 ≤ e by omega)
        exact b_X9_maps_0 (rg_y hw ⟨pk_in w 3 hw, rg_n h2 (K _ (CR_t hc) fC_t)⟩)
      · obtain ⟨d, rfl⟩ := dn (show 12 ≤ e by omega)
        refine b_X10_maps_0 ?_
        rintro m1 rfl
        exact ite_y (isG_y hw) (ite_n (isG_n h2) (m_no hm K))
    · have hG := hs.1 w hw
      have hH := hs.1 u hu
      have h7 := hG.2.1.2
      have h7' := hH.2.1.2
      refine ⟨qs s 0, nI (mps (y_W s w) (y_W s u) 0).length, sOK_qs hs 0, fun g gr e m Q he hc K => ?_, fun g gr e m Q he hm K => ?_⟩
      · obtain ⟨d, rfl⟩ := dn (show 13 ≤ e by omega)
        refine b_X9_maps_0 (rg_y hw ⟨pk_in w 3 hw, rg_y hu ⟨pk_in u 3 hu, ?_⟩⟩)
        rw [cw (show w < 2 ^ 31 by omega), cw (show u < 2 ^ 31 by omega)]
        refine k_match (s272 hw) (s272 hu) (by omega) hG hH (stay := 0) (by decide) (hc.1.1 w hw) (hc.1.1 u hu) (by omega) (by omega) (fun m' a1 _ a3 => b_X9_maps_39 ?_)
        rw [a1.1]
        exact K _ (CR_t (CR_fz hc a3 (by omega))) (fC_trans (fC_fz a3 (by omega)) fC_t)
      · obtain ⟨d, rfl⟩ := dn (show 12 ≤ e by omega)
        have hb := MR_b hm
        refine b_X10_maps_0 ?_
        rintro m1 rfl
        refine ite_y (isG_y hw) (ite_y (isG_y hu) ⟨MR_1 hb, d_laysMaps (stay := 0) (by omega) hG hH hw hu (by decide) (hb.1 w hw) (hb.1 u hu) (fun m' a1 _ a3 => b_X10_maps_40 ?_)⟩)
        rw [a1.1]
        exact K _ (MR_fM hb a3) (fX_trans fX_b (fX_fM a3))
theorem x_map {s : Sg} (hs : sOK s) (l1 l2 l3 : Int32) : BX s mX9_map mX10_map [.int l1, .int l2, .int l3] := by
  rcases i_case l1 3 (by decide) with h | ⟨w, hw, rfl⟩
  · refine ⟨qs s 1, -1, sOK_qs hs 1, fun g gr e m Q he hc K => ?_, fun g gr e m Q he hm K => ?_⟩
    · obtain ⟨d, rfl⟩ := dn (show 13 ≤ e by omega)
      exact b_X9_map_0 (rg_n h (rg_any (K _ (CR_t hc) fC_t)))
    · obtain ⟨d, rfl⟩ := dn (show 12 ≤ e by omega)
      refine b_X10_map_0 ?_
      rintro m1 rfl
      exact ite_n (isG_n h) (m_no hm K)
  · rcases i_case l2 3 (by decide) with h2 | ⟨u, hu, rfl⟩
    · refine ⟨qs s 1, -1, sOK_qs hs 1, fun g gr e m Q he hc K => ?_, fun g gr e m Q he hm K => ?_⟩
      · obtain ⟨d, rfl⟩ := dn (show 13 ≤ e by omega)
        exact b_X9_map_0 (rg_y hw ⟨pk_in w 3 hw, rg_n h2 (K _ (CR_t hc) fC_t)⟩)
      · obtain ⟨d, rfl⟩ := dn (show 12 ≤ e by omega)
        refine b_X10_map_0 ?_
        rintro m1 rfl
        refine ite_y (isG_y hw) ?_
        rw [e57, c57 hw]
        refine ⟨v57 hw, ?_⟩
        by_cases z : tX10_in l3 0 ((wBegins m).1 811 (57 * w) - 1)
        · exact ite_y z (ite_n (isG_n h2) (m_no hm K))
        · exact ite_n z (m_no hm K)
    · have hG := hs.1 w hw
      have hH := hs.1 u hu
      have h7 := hG.2.1.2
      have h7' := hH.2.1.2
      rcases i_case l3 (gn (y_W s w)) (by omega) with h3 | ⟨v, hv, rfl⟩
      · refine ⟨qs s 1, -1, sOK_qs hs 1, fun g gr e m Q he hc K => ?_, fun g gr e m Q he hm K => ?_⟩
        · obtain ⟨d, rfl⟩ := dn (show 13 ≤ e by omega)
          refine b_X9_map_0 (rg_y hw ⟨pk_in w 3 hw, rg_y hu ⟨pk_in u 3 hu, ?_⟩⟩)
          rw [cw (show w < 2 ^ 31 by omega)]
          exact ite_n (has_n h3 (W_n hc hw)) (K _ (CR_t hc) fC_t)
        · obtain ⟨d, rfl⟩ := dn (show 12 ≤ e by omega)
          refine b_X10_map_0 ?_
          rintro m1 rfl
          refine ite_y (isG_y hw) ?_
          rw [e57, c57 hw]
          exact ⟨v57 hw, ite_n (in1_n h3 ((MR_b hm).1 w hw).1) (m_no hm K)⟩
      · have cls : ∀ (g : zG) (gr : Bool) (d : Nat) (m : zm) (Q : Option Value → zH → Prop), CR s m → (∀ m', CR s m' → fC m m' → pPR m' (gn (y_W s w)) (mps (y_W s w) (y_W s u) 0) → WP g gr (d + 13) mX9_map 0 0 51 [.ref 1, .retAddr 0, .retAddr 0, .int (nI v), .retAddr 0, .retAddr 0] [] (mk m') Q) → Ok g gr (d + 13) mX9_map 0 0 [.ref 1, .int (nI w), .int (nI u), .int (nI v)] (mk m) Q := by
          intro g gr d m Q hc HH
          refine b_X9_map_0 (rg_y hw ⟨pk_in w 3 hw, rg_y hu ⟨pk_in u 3 hu, ?_⟩⟩)
          rw [cw (show w < 2 ^ 31 by omega), cw (show u < 2 ^ 31 by omega)]
          exact ite_y (has_y hv (W_n hc hw)) (k_match (s272 hw) (s272 hu) (by omega) hG hH (stay := 0) (by decide) (hc.1.1 w hw) (hc.1.1 u hu) (by omega) (by omega) (fun m' a1 _ a3 => HH m' (CR_fz hc a3 (by omega)) (fC_fz a3 (by omega)) a1))
        have mdl : ∀ (g : zG) (gr : Bool) (d : Nat) (m : zm) (Q : Option Value → zH → Prop), MR s m → (∀ m', MR (qs s 0) m' → fX m m' → pMP m' (gn (y_W s w)) 0 (mps (y_W s w) (y_W s u) 0) → WP g gr (d + 12) mX10_map 0 0 42 [.ref 810, .retAddr 0, .retAddr 0, .int (nI v)] [] (mk m') Q) → Ok g gr (d + 12) mX10_map 0 0 [.ref 810, .int (nI w), .int (nI u), .int (nI v)] (mk m) Q := by
          intro g gr d m Q hm HH
          have hb := MR_b hm
          refine b_X10_map_0 ?_
          rintro m1 rfl
          refine ite_y (isG_y hw) ?_
          rw [e57, c57 hw]
          exact ⟨v57 hw, ite_y (in1_y hv (hb.1 w hw).1) (ite_y (isG_y hu) ⟨MR_1 hb, d_laysMaps (stay := 0) (by omega) hG hH hw hu (by decide) (hb.1 w hw) (hb.1 u hu) (fun m' a1 _ a3 => HH m' (MR_fM hb a3) (fX_trans fX_b (fX_fM a3)) a1)⟩)⟩
        have hlen := mps_len (G := (y_W s w)) (H := (y_W s u)) (stay := 0) h7
        by_cases hz : (mps (y_W s w) (y_W s u) 0).length = 0
        · refine ⟨qs s 6, -1, sOK_qs hs 6, fun g gr e m Q he hc K => ?_, fun g gr e m Q he hm K => ?_⟩
          · obtain ⟨d, rfl⟩ := dn (show 13 ≤ e by omega)
            exact cls g gr d m Q hc (fun m' a1 a2 a3 => b_X9_map_51 ⟨fun z => absurd (by rw [a3.1, hz]; rfl) z, fun _ => K _ (CR_t a1) (fC_trans a2 fC_t)⟩)
          · obtain ⟨d, rfl⟩ := dn (show 12 ≤ e by omega)
            exact mdl g gr d m Q hm (fun m' a1 a2 a3 => b_X10_map_42 ⟨fun z => absurd (by rw [a3.1, hz]; rfl) z, fun _ => m_no2 a1 a2 K⟩)
        · obtain ⟨p, L, eL⟩ : ∃ p L, mps (y_W s w) (y_W s u) 0 = p :: L := by
            cases hh : mps (y_W s w) (y_W s u) 0 with
            | nil => rw [hh] at hz; exact absurd rfl hz
            | cons a b => exact ⟨a, b, rfl⟩
          have hhd : (mps (y_W s w) (y_W s u) 0).head? = some p := by rw [eL]; rfl
          have hne : ¬ nI (mps (y_W s w) (y_W s u) 0).length = 0 := by
            rw [show (0 : Int32) = nI 0 from rfl, nI_eq (by omega) (by decide)]; exact hz
          refine ⟨qs s 0, nI (p v), sOK_qs hs 0, fun g gr e m Q he hc K => ?_, fun g gr e m Q he hm K => ?_⟩
          · obtain ⟨d, rfl⟩ := dn (show 13 ≤ e by omega)
            refine cls g gr d m Q hc (fun m' a1 a2 a3 => b_X9_map_51 ⟨fun _ => ⟨pk_in v 7 (by omega), ?_⟩, fun z => absurd z (by rw [a3.1]; exact hne)⟩)
            rw [cw (by omega), a3.2.2 p hhd v hv]
            exact K _ (CR_t a1) (fC_trans a2 fC_t)
          · obtain ⟨d, rfl⟩ := dn (show 12 ≤ e by omega)
            refine mdl g gr d m Q hm (fun m' a1 a2 a3 => b_X10_map_42 ⟨fun _ => ⟨MR_1 a1, pk_in v 7 (by omega), ?_⟩, fun z => absurd z (by rw [a3.1]; exact hne)⟩)
            rw [cw (by omega), a3.2.2.2.2 p hhd v hv]
            exact K _ a1 a2
theorem x_changes {s : Sg} (hs : sOK s) (l1 l2 : Int32) : BX s mX9_changes mX10_changes [.int l1, .int l2] := by
  rcases i_case l1 3 (by decide) with h | ⟨w, hw, rfl⟩
  · refine ⟨qs s 1, -1, sOK_qs hs 1, fun g gr e m Q he hc K => ?_, fun g gr e m Q he hm K => ?_⟩
    · obtain ⟨d, rfl⟩ := dn (show 11 ≤ e by omega)
      exact b_X9_changes_0 (rg_n h (rg_any (K _ (CR_t hc) fC_t)))
    · obtain ⟨d, rfl⟩ := dn (show 10 ≤ e by omega)
      refine b_X10_changes_0 ?_
      rintro m1 rfl
      exact ite_n (isG_n h) (m_no hm K)
  · rcases i_case l2 3 (by decide) with h2 | ⟨u, hu, rfl⟩
    · refine ⟨qs s 1, -1, sOK_qs hs 1, fun g gr e m Q he hc K => ?_, fun g gr e m Q he hm K => ?_⟩
      · obtain ⟨d, rfl⟩ := dn (show 11 ≤ e by omega)
        exact b_X9_changes_0 (rg_y hw ⟨pk_in w 3 hw, rg_n h2 (K _ (CR_t hc) fC_t)⟩)
      · obtain ⟨d, rfl⟩ := dn (show 10 ≤ e by omega)
        refine b_X10_changes_0 ?_
        rintro m1 rfl
        exact ite_y (isG_y hw) (ite_n (isG_n h2) (m_no hm K))
    · have hG := hs.1 w hw
      have hH := hs.1 u hu
      have h7 := hG.2.1.2
      have h7' := hH.2.1.2
      by_cases hn : gn (y_W s w) = gn (y_W s u)
      · refine ⟨qs s 0, nI (chg (y_W s w) (y_W s u)), sOK_qs hs 0, fun g gr e m Q he hc K => ?_, fun g gr e m Q he hm K => ?_⟩
        · obtain ⟨d, rfl⟩ := dn (show 11 ≤ e by omega)
          refine b_X9_changes_0 (rg_y hw ⟨pk_in w 3 hw, rg_y hu ⟨pk_in u 3 hu, ?_⟩⟩)
          rw [cw (show w < 2 ^ 31 by omega), cw (show u < 2 ^ 31 by omega), W_n hc hw, W_n hc hu]
          refine ite_y (by rw [hn]) ?_
          exact k_leastChanges (s272 hw) (s272 hu) (by omega) hG hH hn (hc.1.1 w hw) (hc.1.1 u hu) (by omega) (by omega) (fun m' a3 => b_X9_changes_57 (K _ (CR_t (CR_fz hc a3 (by omega))) (fC_trans (fC_fz a3 (by omega)) fC_t)))
        · obtain ⟨d, rfl⟩ := dn (show 10 ≤ e by omega)
          have hb := MR_b hm
          refine b_X10_changes_0 ?_
          rintro m1 rfl
          refine ite_y (isG_y hw) (ite_y (isG_y hu) ⟨MR_1 hb, ?_⟩)
          rw [e57, e57, c57 hw, c57 hu, (hb.1 w hw).1, (hb.1 u hu).1]
          refine ⟨v57 hw, v57 hu, ite_y (congrArg nI hn) ?_⟩
          refine d_lays (by omega) hH hu (hb.1 u hu) (fun m2 a1 a2 => b_X10_changes_64 (d_laysOther hH a1 (fun m3 b1 b2 => b_X10_changes_68 (d_lays (by omega) hG hw (pW_fM (pW_fM (hb.1 w hw) a2) b2) (fun m4 c1 c2 => b_X10_changes_73 ?_)))))
          intro m5 e5
          have f5 : fM [59] [] m4 m5 := by rw [e5]; exact fM_f
          refine d_changesFrom hG hH hn (gn (y_W s w)) (d + 9) 0 0 (fun _ => 0) 0 99 m5 _ (Nat.zero_add _) (by omega) (pD_fM c1 f5) (pO_fM (pO_fM b1 c2) f5) (fun x hx => absurd hx (Nat.not_lt_zero _)) (by decide) (fun x _ => by rw [Nat.zero_testBit]; rfl) (by omega) (by decide) (by rw [e5, rI_s]; rfl) (fun m6 i1 i2 => b_X10_changes_86 ?_)
          rw [i1, wg_chg h7 (by decide) (by decide)]
          exact K _ (MR_fM (MR_fM (MR_fM (MR_fM (MR_fM hb a2) b2) c2) f5) i2.1) (fX_trans fX_b (fX_trans (fX_fM a2) (fX_trans (fX_fM b2) (fX_trans (fX_fM c2) (fX_trans (fX_fM f5) (fX_fM i2.1))))))
      · have hne : ¬ nI (gn (y_W s w)) = nI (gn (y_W s u)) := fun z => hn ((nI_eq (by omega) (by omega)).mp z)
        refine ⟨qs s 5, -1, sOK_qs hs 5, fun g gr e m Q he hc K => ?_, fun g gr e m Q he hm K => ?_⟩
        · obtain ⟨d, rfl⟩ := dn (show 11 ≤ e by omega)
          refine b_X9_changes_0 (rg_y hw ⟨pk_in w 3 hw, rg_y hu ⟨pk_in u 3 hu, ?_⟩⟩)
          rw [cw (show w < 2 ^ 31 by omega), cw (show u < 2 ^ 31 by omega), W_n hc hw, W_n hc hu]
          exact ite_n hne (K _ (CR_t hc) fC_t)
        · obtain ⟨d, rfl⟩ := dn (show 10 ≤ e by omega)
          have hb := MR_b hm
          refine b_X10_changes_0 ?_
          rintro m1 rfl
          refine ite_y (isG_y hw) (ite_y (isG_y hu) ⟨MR_1 hb, ?_⟩)
          rw [e57, e57, c57 hw, c57 hu, (hb.1 w hw).1, (hb.1 u hu).1]
          exact ⟨v57 hw, v57 hu, ite_n hne (m_no hm K).2⟩
theorem x_told {s : Sg} (hs : sOK s) (l1 l2 : Int32) : BX s mX9_told mX10_told [.int l1, .int l2] := by
  rcases i_case l1 3 (by decide) with h | ⟨w, hw, rfl⟩
  · refine ⟨qs s 1, -1, sOK_qs hs 1, fun g gr e m Q he hc K => ?_, fun g gr e m Q he hm K => ?_⟩
    · obtain ⟨d, rfl⟩ := dn (show 4 ≤ e by omega)
      exact b_X9_told_0 (rg_n h (rg_any (K _ (CR_t hc) fC_t)))
    · obtain ⟨d, rfl⟩ := dn (show 4 ≤ e by omega)
      refine b_X10_told_0 ?_
      rintro m1 rfl
      exact ite_n (isG_n h) (m_no hm K)
  · rcases i_case l2 3 (by decide) with h2 | ⟨u, hu, rfl⟩
    · refine ⟨qs s 1, -1, sOK_qs hs 1, fun g gr e m Q he hc K => ?_, fun g gr e m Q he hm K => ?_⟩
      · obtain ⟨d, rfl⟩ := dn (show 4 ≤ e by omega)
        exact b_X9_told_0 (rg_y hw ⟨pk_in w 3 hw, rg_n h2 (K _ (CR_t hc) fC_t)⟩)
      · obtain ⟨d, rfl⟩ := dn (show 4 ≤ e by omega)
        refine b_X10_told_0 ?_
        rintro m1 rfl
        exact ite_y (isG_y hw) (ite_n (isG_n h2) (m_no hm K))
    · have hG := hs.1 w hw
      have hH := hs.1 u hu
      have h7 := hG.2.1.2
      have h7' := hH.2.1.2
      by_cases hn : gn (y_W s w) = gn (y_W s u)
      · refine ⟨qs s 0, told (y_W s w) (y_W s u), sOK_qs hs 0, fun g gr e m Q he hc K => ?_, fun g gr e m Q he hm K => ?_⟩
        · obtain ⟨d, rfl⟩ := dn (show 4 ≤ e by omega)
          refine b_X9_told_0 (rg_y hw ⟨pk_in w 3 hw, rg_y hu ⟨pk_in u 3 hu, ?_⟩⟩)
          rw [cw (show w < 2 ^ 31 by omega), cw (show u < 2 ^ 31 by omega), W_n hc hw, W_n hc hu]
          refine ite_y (by rw [hn]) ?_
          exact k_toldApart (s272 hw) (s272 hu) (by omega) hG hH hn (hc.1.1 w hw) (hc.1.1 u hu) (by omega) (by omega) (fun m' a3 => b_X9_told_54 (K _ (CR_t (CR_fz hc a3 (by omega))) (fC_trans (fC_fz a3 (by omega)) fC_t)))
        · obtain ⟨d, rfl⟩ := dn (show 4 ≤ e by omega)
          have hb := MR_b hm
          refine b_X10_told_0 ?_
          rintro m1 rfl
          refine ite_y (isG_y hw) (ite_y (isG_y hu) ⟨MR_1 hb, ?_⟩)
          rw [e57, e57, c57 hw, c57 hu, (hb.1 w hw).1, (hb.1 u hu).1]
          refine ⟨v57 hw, v57 hu, ite_y (congrArg nI hn) ?_⟩
          refine d_lays (by omega) hH hu (hb.1 u hu) (fun m2 a1 a2 => b_X10_told_64 (d_laysOther hH a1 (fun m3 b1 b2 => b_X10_told_68 (d_lays (by omega) hG hw (pW_fM (pW_fM (hb.1 w hw) a2) b2) (fun m4 c1 c2 => b_X10_told_73 (d_toldBy (by omega) hG hH hn c1 (pO_fM b1 c2) (fun m5 i2 => b_X10_told_77 ?_)))))))
          exact K _ (MR_fM (MR_fM (MR_fM (MR_fM hb a2) b2) c2) i2) (fX_trans fX_b (fX_trans (fX_fM a2) (fX_trans (fX_fM b2) (fX_trans (fX_fM c2) (fX_fM i2)))))
      · have hne : ¬ nI (gn (y_W s w)) = nI (gn (y_W s u)) := fun z => hn ((nI_eq (by omega) (by omega)).mp z)
        refine ⟨qs s 5, -1, sOK_qs hs 5, fun g gr e m Q he hc K => ?_, fun g gr e m Q he hm K => ?_⟩
        · obtain ⟨d, rfl⟩ := dn (show 4 ≤ e by omega)
          refine b_X9_told_0 (rg_y hw ⟨pk_in w 3 hw, rg_y hu ⟨pk_in u 3 hu, ?_⟩⟩)
          rw [cw (show w < 2 ^ 31 by omega), cw (show u < 2 ^ 31 by omega), W_n hc hw, W_n hc hu]
          exact ite_n hne (K _ (CR_t hc) fC_t)
        · obtain ⟨d, rfl⟩ := dn (show 4 ≤ e by omega)
          have hb := MR_b hm
          refine b_X10_told_0 ?_
          rintro m1 rfl
          refine ite_y (isG_y hw) (ite_y (isG_y hu) ⟨MR_1 hb, ?_⟩)
          rw [e57, e57, c57 hw, c57 hu, (hb.1 w hw).1, (hb.1 u hu).1]
          exact ⟨v57 hw, v57 hu, ite_n hne (m_no hm K).2⟩
theorem x_turned {s : Sg} (hs : sOK s) (l1 : Int32) : BX s mX9_turned mX10_turned [.int l1] := by
  rcases i_case l1 3 (by decide) with h | ⟨w, hw, rfl⟩
  · refine ⟨qs s 1, -1, sOK_qs hs 1, fun g gr e m Q he hc K => ?_, fun g gr e m Q he hm K => ?_⟩
    · obtain ⟨d, rfl⟩ := dn (show 13 ≤ e by omega)
      exact b_X9_turned_0 (rg_n h (K _ (CR_t hc) fC_t))
    · obtain ⟨d, rfl⟩ := dn (show 11 ≤ e by omega)
      refine b_X10_turned_0 ?_
      rintro m1 rfl
      exact ite_n (isG_n h) (m_no hm K)
  · have hG := hs.1 w hw
    have h7 := hG.2.1.2
    have hlen := mps_len (G := (y_W s w)) (H := gT (y_W s w)) (stay := 0) h7
    refine ⟨qs s 0, (if (mps (y_W s w) (gT (y_W s w)) 0).length = 0 then 0 else 1), sOK_qs hs 0, fun g gr e m Q he hc K => ?_, fun g gr e m Q he hm K => ?_⟩
    · obtain ⟨d, rfl⟩ := dn (show 13 ≤ e by omega)
      have hp := hc.1.1 w hw
      refine b_X9_turned_0 (rg_y hw ⟨pk_in w 3 hw, ?_⟩)
      rw [cw (by omega)]
      refine k_take a_191 (s272 hw) (by omega) (by omega) hp (fun m1 a1 a2 => b_X9_turned_24 (s272 hw) ?_)
      refine k_turnKinds a_191 (by omega) hG a1 (fun m2 b1 b2 => b_X9_turned_31 (s272 hw) ?_)
      have f2 : fz 157 206 m m2 := fz_trans (fz_mono a2) (fz_mono b2)
      refine k_match (s272 hw) a_191 (by omega) hG (gT_WF hG) (stay := 0) (by decide) (pG_fz hp f2 (by omega)) b1 (by omega) (by omega) (fun m3 c1 _ c3 => b_X9_turned_44 ?_)
      have f3 : fz 157 206 m m3 := fz_trans f2 (fz_mono c3)
      refine pk_le (mps (y_W s w) (gT (y_W s w)) 0).length 0 (fun z => ?_) (fun z => ?_) c1.1
      · rw [if_pos (by omega)] at K
        exact K _ (CR_t (CR_fz hc f3 (by omega))) (fC_trans (fC_fz f3 (by omega)) fC_t)
      · rw [if_neg (by omega)] at K
        exact K _ (CR_t (CR_fz hc f3 (by omega))) (fC_trans (fC_fz f3 (by omega)) fC_t)
    · obtain ⟨d, rfl⟩ := dn (show 11 ≤ e by omega)
      have hb := MR_b hm
      refine b_X10_turned_0 ?_
      rintro m1 rfl
      refine ite_y (isG_y hw) ⟨MR_1 hb, d_laysTurned (by omega) hG hw (hb.1 w hw) (fun m2 a1 a2 => b_X10_turned_31 (d_laysOther (gT_WF hG) a1 (fun m3 b1 b2 => b_X10_turned_35 (d_lays (by omega) hG hw (pW_fM (pW_fM (hb.1 w hw) a2) b2) (fun m4 c1 c2 => b_X10_turned_40 (d_mapsAll (stay := 0) (by omega) hG (gT_WF hG) (by decide) c1 (pO_fM b1 c2) (fun m5 i1 i2 => b_X10_turned_45 ?_)))))))⟩
      have fin : ∀ r, (∀ m', MR (qs s 0) m' → fX m m' → Q (some (.int r)) (mk m')) → Q (some (.int r)) (mk m5) := fun r KK => KK _ (MR_fM (MR_fM (MR_fM (MR_fM hb a2) b2) c2) i2) (fX_trans fX_b (fX_trans (fX_fM a2) (fX_trans (fX_fM b2) (fX_trans (fX_fM c2) (fX_fM i2)))))
      refine pk_le (mps (y_W s w) (gT (y_W s w)) 0).length 0 (fun z => ?_) (fun z => ?_) i1.1
      · rw [if_pos (by omega)] at K
        exact fin _ K
      · rw [if_neg (by omega)] at K
        exact fin _ K
end ZAs
