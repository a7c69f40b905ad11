/-! acts: image, again -/
section ZAc
theorem x_image {s : Sg} (hs : sOK s) (l1 : Int32) : BX s mX9_image mX10_image [.int l1] := by
  rcases i_case l1 2 (by decide) with h | ⟨j, hj, rfl⟩
  · refine ⟨qs s 1, 0, sOK_qs hs 1, fun g gr e m Q he hc K => ?_, fun g gr e m Q he hm K => ?_⟩
    · obtain ⟨d, rfl⟩ := dn (show 3 ≤ e by omega)
      exact b_X9_image_0 (rl_n (n := 2) h (K _ (CR_t hc) fC_t))
    · obtain ⟨d, rfl⟩ := dn (show 1 ≤ e by omega)
      have hb := MR_b hm
      refine b_X10_image_0 ?_
      rintro m1 rfl
      exact ite_n (in_n (n := 1) (by decide) h) ⟨MR_1 hb, K _ (MR_t hb) (fX_trans fX_b fX_w)⟩
  · obtain ⟨W, P, I, KK, T, f, ww, t⟩ := s
    let I' : Nat → Nat → Gr := fun i w => if i = j then W w else I i w
    let K' : Nat → Bool := fun i => if i = j then true else KK i
    obtain ⟨h1, h2, h3, h4, h5, h6⟩ := hs
    have hs' : sOK (W, P, I', K', T, f, -1, 0) := by
      refine ⟨h1, h2, h3, fun i hi hk w hw => ?_, h5, h6⟩
      show gWF (if i = j then W w else I i w)
      by_cases z : i = j
      · rw [if_pos z]; exact h1 w hw
      · rw [if_neg z]
        have hk : (if i = j then true else KK i) = true := hk
        rw [if_neg z] at hk
        exact h4 i hi hk w hw
    refine ⟨(W, P, I', K', T, f, -1, 0), 1, hs', fun g gr e m Q he hc K => ?_, fun g gr e m Q he hm K => ?_⟩
    · obtain ⟨d, rfl⟩ := dn (show 3 ≤ e by omega)
      obtain ⟨⟨a1, ⟨a2, a, a3, a4, a5⟩, a6, ⟨a7, a7b, R, r1, r2⟩, a8, a9, a10, a11⟩, b1⟩ := hc
      have e3 : ∀ x, nI j * (3 : Int32) + nI x = nI (j * 3 + x) := fun x => by rw [show (3 : Int32) = nI 3 from rfl, show nI j * nI 3 = nI (j * 3) from (by rw [Int32.mul_comm, pk_mul, Nat.mul_comm]), nI_add]
      refine b_X9_image_0 (rl_y (n := 2) hj ?_)
      refine up_to (n := 3) (P := fun k => ∀ m', (∀ x, x < k → pG m' (692 + 15 * (j * 3 + x)) (W x)) → fz (692 + 15 * (j * 3)) (692 + 15 * (j * 3 + 3)) m m' → WP g gr (d + 3) mX9_image 0 0 18 [.ref 1, .int (nI j), .int (nI k)] [] (mk m') Q) ?_ ?_ 0 (Nat.zero_le _) m (fun x hx => absurd hx (Nat.not_lt_zero _)) (fz_refl _ _ _)
      · intro m' c1 c2
        refine b_X9_image_18 (pk_le 3 3 (fun _ => ⟨pk_in j 2 hj, ?_⟩) (fun z => absurd z (Nat.lt_irrefl _)))
        rw [cw (show j < 2 ^ 31 by omega)]
        intro m2 e2
        have q : ∀ x k, x ≠ 146 → (x < 692 + 15 * (j * 3) ∨ 692 + 15 * (j * 3 + 3) ≤ x) → m2.1 x k = m.1 x k := fun x k y1 y2 => by rw [e2, rI_n (fun y => y1 y.1), fz_1 c2 (by omega)]
        have qf : ∀ x, x ≠ 146 → (x < 692 + 15 * (j * 3) ∨ 692 + 15 * (j * 3 + 3) ≤ x) → m2.1 x = m.1 x := fun x y1 y2 => funext fun k => q x k y1 y2
        have qL : ∀ x, (x < 692 + 15 * (j * 3) ∨ 692 + 15 * (j * 3 + 3) ≤ x) → m2.2 x = m.2 x := fun x y2 => by rw [e2, wI_2, (c2 x (by omega)).2]
        have hCC : CC (W, P, I', K', T, f, ww, t) m2 := by
          refine ⟨fun x hx => pG_eq (a1 x hx) fun y y1 y2 => qf y (by omega) (by omega), ⟨by rw [q _ _ (by omega) (by omega)]; exact a2, a, a3, by rw [q _ _ (by omega) (by omega)]; exact a4, fun i p hp => ⟨by rw [q _ _ (by omega) (by omega)]; exact (a5 i p hp).1, pG_eq (a5 i p hp).2 fun y y1 y2 => qf y (by omega) (by omega)⟩⟩, fun i hi => ?_, ⟨by rw [q _ _ (by omega) (by omega)]; exact a7, rowL_cong a7b (qf _ (by omega) (by omega)), R, r1, pG_eq r2 fun y y1 y2 => qf y (by omega) (by omega)⟩, by rw [q _ _ (by omega) (by omega)]; exact a8, fun z => by rw [q _ _ (by omega) (by omega)]; exact a9 z, a10, by rw [q _ _ (by omega) (by omega)]; exact a11⟩
          show m2.1 146 i = (if (if i = j then true else KK i) = true then 1 else 0) ∧ ((if i = j then true else KK i) = true → ∀ x, x < 3 → pG m2 (692 + 15 * (i * 3 + x)) (if i = j then W x else I i x))
          by_cases z : i = j
          · subst z
            rw [if_pos rfl, if_pos rfl]
            refine ⟨by rw [e2, rI_s], fun _ x hx => ?_⟩
            rw [if_pos rfl]
            exact pG_eq (c1 x hx) fun y y1 y2 => funext fun k => by rw [e2, rI_n (by omega)]
          · rw [if_neg z]
            refine ⟨by rw [e2, rI_n (fun y => z y.2), fz_1 c2 (by omega)]; exact (a6 i hi).1, fun hk x hx => ?_⟩
            rw [if_neg z]
            exact pG_eq ((a6 i hi).2 hk x hx) fun y y1 y2 => qf y (by omega) (by omega)
        have hCR : CR (W, P, I', K', T, f, ww, t) m2 := ⟨hCC, CS_eq b1 fun x hx => ⟨qf x (by omega) (by omega), qL x (by omega)⟩⟩
        exact K _ (CR_t (t := 0) hCR) (fC_trans (fun x hx => ⟨qf x (by omega) (by omega), qL x (by omega)⟩) fC_t)
      · intro k hk ih m' c1 c2
        refine b_X9_image_18 (pk_le 3 k (fun z => by omega) (fun _ => ?_))
        rw [e3, cw (show j * 3 + k < 2 ^ 31 by omega), cw (show k < 2 ^ 31 by omega)]
        refine ⟨pk_in (j * 3 + k) 6 (by omega), pk_in k 3 hk, ?_⟩
        refine k_take (e_145 _ (by omega)).2 (s272 hk) (by omega) (by omega) (pG_fz (a1 k hk) c2 (by omega)) (fun m2 d1 d2 => b_X9_image_42 ?_)
        rw [nI_1]
        refine ih m2 (fun x hx => ?_) (fz_trans c2 (fz_mono d2))
        by_cases z : x = k
        · subst z; exact d1
        · exact pG_fz (c1 x (by omega)) d2 (by omega)
    · obtain ⟨d, rfl⟩ := dn (show 1 ≤ e by omega)
      have hb := MR_b hm
      have hb0 := hb
      obtain ⟨a1, ⟨a2, a3⟩, a4, a5, a6, a7, a8⟩ := hb
      refine b_X10_image_0 ?_
      rintro m1 rfl
      refine ite_y (in_y (n := 1) (by omega) (by decide)) ⟨MR_1 hb0, ?_⟩
      refine up_to (n := 171) (P := fun k => ∀ m', (∀ x, x < k → m'.1 813 (171 * j + x) = (wBegins m).1 811 x) → (∀ x, (x < 171 * j ∨ 171 * j + 171 ≤ x) → m'.1 813 x = (wBegins m).1 813 x) → fM [] [813] (wBegins m) m' → WP g gr (d + 1) mX10_image 0 0 30 [.ref 810, .int (nI j), .int (nI k)] [] (mk m') Q) ?_ ?_ 0 (Nat.zero_le _) _ (fun x hx => absurd hx (Nat.not_lt_zero _)) (fun _ _ => rfl) (fM_refl _ _ _)
      · intro m' c1 c2 c3
        refine b_X10_image_30 (pk_le 171 171 (fun _ => ⟨pk_in j 2 hj, ?_⟩) (fun z => absurd z (Nat.lt_irrefl _)))
        rw [cw (show j < 2 ^ 31 by omega)]
        have f4 : fM [] [813, 814] (wBegins m) (wI m' 814 j 1) := fM_trans (fM_mono c3) fM_r
        refine K _ ⟨fun x hx => pW_fM (a1 x hx) f4, ⟨by rw [fM_2 f4]; exact a2, fun i hi x hx => pR_eq (a3 i hi x hx) (f4.1 812 (by decide) (by decide))⟩, fun i hi => ?_, ⟨by rw [fM_2 f4]; exact a5.1, rowL_cong a5.2 (f4.1 815 (by decide) (by decide))⟩, by rw [fM_2 f4]; exact a6, by rw [fM_2 f4]; exact a7, by rw [fM_2 f4]; exact a8⟩ (fX_trans fX_b (fX_fM f4))
        show (wI m' 814 j 1).1 814 i = (if (if i = j then true else KK i) = true then 1 else 0) ∧ ((if i = j then true else KK i) = true → ∀ x, x < 3 → pR (wI m' 814 j 1) 813 (171 * i + 57 * x) (if i = j then W x else I i x))
        by_cases z : i = j
        · subst z
          rw [if_pos rfl, if_pos rfl]
          refine ⟨rI_s, fun _ x hx => ?_⟩
          rw [if_pos rfl]
          refine pR_copy (show pR (wBegins m) 811 (57 * x) (W x) from a1 x hx) fun k hk => ?_
          rw [rI_n (by omega), Nat.add_assoc, c1 _ (by omega)]
        · rw [if_neg z]
          refine ⟨by rw [rI_n (fun y => z y.2), fM_1 c3]; exact (a4 i hi).1, fun hk x hx => ?_⟩
          rw [if_neg z]
          refine pR_copy ((a4 i hi).2 hk x hx) fun k hk => ?_
          rw [rI_n (by omega), c2 _ (by omega)]
      · intro k hk ih m' c1 c2 c3
        refine b_X10_image_30 (pk_le 171 k (fun z => by omega) (fun _ => ?_))
        rw [show (171 : Int32) = nI 171 from rfl, pk_mul, nI_add, cw (show 171 * j + k < 2 ^ 31 by omega), cw (show k < 2 ^ 31 by omega), fM_1 c3 (a := 811), nI_1]
        refine ⟨pk_in k 171 hk, pk_in (171 * j + k) 342 (by omega), ih _ (fun x hx => ?_) (fun x hx => by rw [rI_n (by omega)]; exact c2 x hx) (fM_trans c3 fM_r)⟩
        by_cases z : x = k
        · subst z; exact rI_s
        · rw [rI_n (by omega)]; exact c1 x (by omega)
end ZAc
