/-! acts: again -/
section ZAc
theorem x_again {s : Sg} (hs : sOK s) (l1 : Int32) : BX s mX9_again mX10_again [.int l1] := by
  rcases i_case l1 2 (by decide) with h | ⟨j, hj, rfl⟩
  · refine ⟨qs s 1, 0, sOK_qs hs 1, fun g gr e m Q he hc K => ?_, fun g gr e m Q he hm K => ?_⟩
    · obtain ⟨d, rfl⟩ := dn (show 3 ≤ e by omega)
      exact b_X9_again_0 (rg_n (n := 2) h (K _ (CR_t hc) fC_t))
    · obtain ⟨d, rfl⟩ := dn (show 1 ≤ e by omega)
      have hb := MR_b hm
      refine b_X10_again_0 ?_
      rintro m1 rfl
      exact ite_n (in_n (n := 1) (by decide) h) ⟨MR_1 hb, K _ (MR_t hb) (fX_trans fX_b fX_w)⟩
  · obtain ⟨W, P, I, KK, T, f, ww, t⟩ := s
    obtain ⟨h1, h2, h3, h4, h5, h6⟩ := hs
    have h4 : ∀ i, i < 2 → KK i = true → ∀ w, w < 3 → gWF (I i w) := h4
    by_cases hk : KK j = true
    · have hs' : sOK (I j, [], I, KK, T, f, -1, 0) := ⟨fun w hw => h4 j hj hk w hw, Nat.zero_le _, fun p hp => (by cases hp), h4, h5, h6⟩
      refine ⟨(I j, [], I, KK, T, f, -1, 0), 1, hs', fun g gr e m Q he hc K => ?_, fun g gr e m Q he hm K => ?_⟩
      · obtain ⟨d, rfl⟩ := dn (show 3 ≤ e by omega)
        obtain ⟨⟨a1, ⟨a2, a, a3, a4, a5⟩, a6, ⟨a7, a7b, R, r1, r2⟩, a8, a9, a10, a11⟩, b1⟩ := hc
        have a6 : ∀ i, i < 2 → m.1 146 i = (if KK i = true then 1 else 0) ∧ (KK i = true → ∀ w, w < 3 → pG m (692 + 15 * (i * 3 + w)) (I i w)) := a6
        have k1 : m.1 146 j = 1 := by rw [(a6 j hj).1, if_pos hk]
        have e3 : ∀ x, nI j * (3 : Int32) + nI x = nI (j * 3 + x) := fun x => by rw [show (3 : Int32) = nI 3 from rfl, show nI j * nI 3 = nI (j * 3) from (by rw [Int32.mul_comm, pk_mul, Nat.mul_comm]), nI_add]
        refine b_X9_again_0 (rg_y (n := 2) hj ⟨pk_in j 2 hj, ?_⟩)
        rw [cw (show j < 2 ^ 31 by omega), k1]
        refine ⟨fun _ => ?_, fun z => absurd z (by decide)⟩
        refine up_to (n := 3) (P := fun k => ∀ m', (∀ x, x < k → pG m' (272 + 140 * x) (I j x)) → (∀ y, ¬ (272 ≤ y ∧ y < 692 ∧ (y - 272) % 140 < 15) → m'.1 y = m.1 y ∧ m'.2 y = m.2 y) → WP g gr (d + 3) mX9_again 0 0 27 [.ref 1, .int (nI j), .int (nI k)] [] (mk m') Q) ?_ ?_ 0 (Nat.zero_le _) m (fun x hx => absurd hx (Nat.not_lt_zero _)) (fun _ _ => ⟨rfl, rfl⟩)
        · intro m' c1 c2
          refine b_X9_again_27 (pk_le 3 3 (fun _ => ?_) (fun z => absurd z (Nat.lt_irrefl _)))
          intro m2 e2
          have q : ∀ x k, x ≠ 22 → (x < 272 ∨ 692 ≤ x) → m2.1 x k = m.1 x k := fun x k y1 y2 => by rw [e2, rI_n (fun y => y1 y.1), (c2 x (by omega)).1]
          have qf : ∀ x, x ≠ 22 → (x < 272 ∨ 692 ≤ x) → m2.1 x = m.1 x := fun x y1 y2 => funext fun k => q x k y1 y2
          have hCC : CC (I j, [], I, KK, T, f, ww, t) m2 := by
            refine ⟨fun x hx => pG_eq (c1 x hx) fun y y1 y2 => funext fun k => by rw [e2, rI_n (by omega)], ⟨by rw [e2, rI_s]; rfl, a, a3, by rw [e2, rI_n (by omega), (c2 22 (by omega)).1]; exact a4, fun i p hp => by cases hp⟩, fun i hi => ⟨by rw [q _ _ (by omega) (by omega)]; exact (a6 i hi).1, fun hk x hx => pG_eq ((a6 i hi).2 hk x hx) fun y y1 y2 => qf y (by omega) (by omega)⟩, ⟨by rw [q _ _ (by omega) (by omega)]; exact a7, rowL_cong a7b (qf _ (by omega) (by omega)), R, r1, pG_eq r2 fun y y1 y2 => qf y (by omega) (by omega)⟩, by rw [q _ _ (by omega) (by omega)]; exact a8, fun z => by rw [q _ _ (by omega) (by omega)]; exact a9 z, a10, by rw [q _ _ (by omega) (by omega)]; exact a11⟩
          have hCR : CR (I j, [], I, KK, T, f, ww, t) m2 := ⟨hCC, CS_eq b1 fun x hx => ⟨funext fun k => by rw [e2, rI_n (by omega), (c2 x (by omega)).1], by rw [e2, wI_2, (c2 x (by omega)).2]⟩⟩
          exact K _ (CR_t (t := 0) hCR) (fC_trans (fun x hx => ⟨qf x (by omega) (by omega), by rw [e2, wI_2, (c2 x (by omega)).2]⟩) fC_t)
        · intro k hk3 ih m' c1 c2
          refine b_X9_again_27 (pk_le 3 k (fun z => by omega) (fun _ => ?_))
          rw [e3, cw (show j * 3 + k < 2 ^ 31 by omega), cw (show k < 2 ^ 31 by omega)]
          refine ⟨pk_in k 3 hk3, pk_in (j * 3 + k) 6 (by omega), ?_⟩
          have pI : pG m' (692 + 15 * (j * 3 + k)) (I j k) := pG_eq ((a6 j hj).2 hk k hk3) fun y y1 y2 => (c2 y (by omega)).1
          have k3 : k = 0 ∨ k = 1 ∨ k = 2 := by omega
          refine k_take (s272 hk3) (e_145 _ (by omega)).2 (by omega) (by omega) pI (fun m2 d1 d2 => b_X9_again_51 ?_)
          rw [nI_1]
          refine ih m2 (fun x hx => ?_) (fun y hy => ?_)
          · by_cases z : x = k
            · subst z; exact d1
            · refine pG_fz (c1 x (by omega)) d2 ?_
              have : x = 0 ∨ x = 1 ∨ x = 2 := by omega
              omega
          · have h8 := d2 y (by
              rcases k3 with rfl | rfl | rfl <;> omega)
            have h9 := c2 y hy
            exact ⟨h8.1.trans h9.1, h8.2.trans h9.2⟩
      · obtain ⟨d, rfl⟩ := dn (show 1 ≤ e by omega)
        have hb := MR_b hm
        have hb0 := hb
        obtain ⟨a1, ⟨a2, a3⟩, a4, a5, a6, a7, a8⟩ := hb
        have a4 : ∀ i, i < 2 → (wBegins m).1 814 i = (if KK i = true then 1 else 0) ∧ (KK i = true → ∀ w, w < 3 → pR (wBegins m) 813 (171 * i + 57 * w) (I i w)) := a4
        have k1 : (wBegins m).1 814 j = 1 := by rw [(a4 j hj).1, if_pos hk]
        refine b_X10_again_0 ?_
        rintro m1 rfl
        refine ite_y (in_y (n := 1) (by omega) (by decide)) ⟨pk_in j 2 hj, ?_⟩
        rw [cw (show j < 2 ^ 31 by omega), k1]
        refine ⟨fun _ => ⟨MR_1 hb0, ?_⟩, fun z => absurd z (by decide)⟩
        refine up_to (n := 171) (P := fun k => ∀ m', (∀ x, x < k → m'.1 811 x = (wBegins m).1 813 (171 * j + x)) → fM [] [811] (wBegins m) m' → WP g gr (d + 1) mX10_again 0 0 39 [.ref 810, .int (nI j), .int (nI k)] [] (mk m') Q) ?_ ?_ 0 (Nat.zero_le _) _ (fun x hx => absurd hx (Nat.not_lt_zero _)) (fM_refl _ _ _)
        · intro m' c1 c3
          refine b_X10_again_39 (pk_le 171 171 (fun _ => ?_) (fun z => absurd z (Nat.lt_irrefl _)))
          have f4 : fM [6] [811] (wBegins m) (wI m' 810 6 0) := fM_trans (fM_mono c3) fM_f
          refine K _ ⟨fun x hx => ?_, ⟨rI_s, fun i hi => absurd hi (Nat.not_lt_zero _)⟩, fun i hi => ⟨by rw [fM_1 f4]; exact (a4 i hi).1, fun hk x hx => pR_eq ((a4 i hi).2 hk x hx) (f4.1 813 (by decide) (by decide))⟩, ⟨by rw [fM_2 f4]; exact a5.1, rowL_cong a5.2 (f4.1 815 (by decide) (by decide))⟩, by rw [fM_2 f4]; exact a6, by rw [fM_2 f4]; exact a7, by rw [fM_2 f4]; exact a8⟩ (fX_trans fX_b (fX_fM f4))
          refine pR_copy (r' := 811) (o' := 57 * x) ((a4 j hj).2 hk x hx) fun k hk2 => ?_
          rw [rI_n (by omega), c1 _ (by omega), Nat.add_assoc]
        · intro k hk2 ih m' c1 c3
          refine b_X10_again_39 (pk_le 171 k (fun z => by omega) (fun _ => ?_))
          rw [show (171 : Int32) = nI 171 from rfl, pk_mul, nI_add, cw (show 171 * j + k < 2 ^ 31 by omega), cw (show k < 2 ^ 31 by omega), fM_1 c3 (a := 813), nI_1]
          refine ⟨pk_in (171 * j + k) 342 (by omega), pk_in k 171 hk2, ih _ (fun x hx => ?_) (fM_trans c3 fM_r)⟩
          by_cases z : x = k
          · subst z; exact rI_s
          · rw [rI_n (fun q => z q.2)]; exact c1 x (by omega)
    · refine ⟨qs (W, P, I, KK, T, f, ww, t) 1, 0, sOK_qs ⟨h1, h2, h3, h4, h5, h6⟩ 1, fun g gr e m Q he hc K => ?_, fun g gr e m Q he hm K => ?_⟩
      · obtain ⟨d, rfl⟩ := dn (show 3 ≤ e by omega)
        have k1 : m.1 146 j = 0 := by
          have h := (hc.1.2.2.1 j hj).1
          have h : m.1 146 j = (if KK j = true then 1 else 0) := h
          rw [h, if_neg hk]
        refine b_X9_again_0 (rg_y (n := 2) hj ⟨pk_in j 2 hj, ?_⟩)
        rw [cw (show j < 2 ^ 31 by omega), k1]
        exact ⟨fun z => absurd rfl z, fun _ => K _ (CR_t hc) fC_t⟩
      · obtain ⟨d, rfl⟩ := dn (show 1 ≤ e by omega)
        have hb := MR_b hm
        have k1 : (wBegins m).1 814 j = 0 := by
          have h := (hb.2.2.1 j hj).1
          have h : (wBegins m).1 814 j = (if KK j = true then 1 else 0) := h
          rw [h, if_neg hk]
        refine b_X10_again_0 ?_
        rintro m1 rfl
        refine ite_y (in_y (n := 1) (by omega) (by decide)) ⟨pk_in j 2 hj, ?_⟩
        rw [cw (show j < 2 ^ 31 by omega), k1]
        exact ⟨fun z => absurd rfl z, fun _ => ⟨MR_1 hb, K _ (MR_t hb) (fX_trans fX_b fX_w)⟩⟩
end ZAc
