/-! the fewest set apart; what lasts of an act: the past -/
theorem ct_full : ∀ n, n ≤ 7 → ∀ a, a < 2 ^ n - 1 → fb_ct a.testBit 7 < fb_ct (2 ^ n - 1).testBit 7 := by decide +kernel
theorem ct_most : ∀ n, n ≤ 7 → ∀ a, a < 2 ^ n → fb_ct a.testBit 7 ≤ fb_ct (2 ^ n - 1).testBit 7 := by decide +kernel
section ZAs
theorem d_fewestTail {g : zG} {gr : Bool} {m : zm} {Q : Option Value → zH → Prop} {G : Gr} {d : Nat} (hG : gWF G) (hp : pD m G) (K : ∀ m', fM [25] [819, 820, 821] m m' → Q (some (.int (nI (fwt G (2 ^ gn G - 1))))) (mk m')) : WP g gr (d + 6) mX10_fewest 0 0 35 [.ref 810, .retAddr 0, .int (-1), .int 0] [] (mk m) Q := by
  have h7 := hG.2.1.2
  have hp7 := p7 h7
  have hp1 : 1 ≤ 2 ^ gn G := Nat.two_pow_pos _
  have e1 : (1 : Int32) <<< (nI (gn G) &&& 31) = nI (2 ^ gn G) := i_sh1 (by omega)
  let A : Nat := 2 ^ gn G - 1
  have hA : bsq G A = gn G := bsq_all hG
  have hfl := fwt_lt (G := G) h7
  have fy : ∀ s, (fb_ct s.testBit 7 < fb_ct (fwt G s).testBit 7 ∧ bsq G s = gn G) → fwt G (s + 1) = s := fun s z => by show (if _ then _ else _) = _; rw [if_pos z]
  have fn : ∀ s, ¬ (fb_ct s.testBit 7 < fb_ct (fwt G s).testBit 7 ∧ bsq G s = gn G) → fwt G (s + 1) = fwt G s := fun s z => by show (if _ then _ else _) = _; rw [if_neg z]
  have hle : ∀ s, s ≤ A → fwt G s ≤ A := fun s => by
    induction s with
    | zero => intro _; exact Nat.le_refl _
    | succ s ih =>
      intro hs
      by_cases z : fb_ct s.testBit 7 < fb_ct (fwt G s).testBit 7 ∧ bsq G s = gn G
      · rw [fy s z]; omega
      · rw [fn s z]; exact ih (by omega)
  -- at a set, with what was found so far
  let v : Nat → Int32 := fun s => if fwt G s = A then -1 else nI (fwt G s)
  have neg : ∀ x, x < 128 → ¬ nI x = -1 := by decide +kernel
  have tail : ∀ m', pD m' G → fM [25] [819, 820, 821] m m' → WP g gr (d + 6) mX10_fewest 0 0 35 [.ref 810, .retAddr 0, .int (v A), .int (nI A)] [] (mk m') Q := by
    intro m' p' f'
    have fin : ∀ m', pD m' G → fM [25] [819, 820, 821] m m' → WP g gr (d + 6) mX10_fewest 0 0 35 [.ref 810, .retAddr 0, .int (nI (fwt G A)), .int (nI (A + 1))] [] (mk m') Q := by
      intro m' p' f'
      refine b_X10_fewest_35 ?_
      rw [p'.1, e1]
      exact pk_le (2 ^ gn G) (A + 1) (fun _ => K m' f') (fun z => by omega)
    refine b_X10_fewest_35 ?_
    rw [p'.1, e1]
    refine pk_le (2 ^ gn G) A (fun z => by omega) (fun _ => ?_)
    by_cases z : fwt G A = A
    · have ev : v A = -1 := if_pos z
      rw [ev]
      refine ⟨fun _ => ?_, fun y => absurd rfl y⟩
      refine d_cellsBy (by omega) hG p' (by omega) (fun m2 f2 => b_X10_fewest_66 ?_)
      rw [(pD_fM p' f2).1, hA, nI_1]
      refine ⟨fun y => absurd rfl y, fun _ => ?_⟩
      have := fin m2 (pD_fM p' f2) (fM_trans f' f2)
      rw [z] at this
      exact this
    · have ev : v A = nI (fwt G A) := if_neg z
      have hl := hfl A (by omega)
      rw [ev]
      refine ⟨fun y => absurd y (neg _ hl), fun _ => ?_⟩
      refine d_ones (by omega) (b_X10_fewest_54 (d_ones hl (b_X10_fewest_58 ?_)))
      have c1 := fb_ct_le A.testBit 7
      have c2 := fb_ct_le (fwt G A).testBit 7
      have c3 : fb_ct (fwt G A).testBit 7 ≤ fb_ct A.testBit 7 := ct_most (gn G) h7 (fwt G A) (by have := hle A (Nat.le_refl _); omega)
      rw [nI_1]
      refine pk_le (fb_ct (fwt G A).testBit 7) (fb_ct A.testBit 7) (fun _ => fin m' p' f') (fun y => by omega)
  have main := up_to (n := A) (P := fun s => ∀ m', pD m' G → fM [25] [819, 820, 821] m m' → WP g gr (d + 6) mX10_fewest 0 0 35 [.ref 810, .retAddr 0, .int (v s), .int (nI s)] [] (mk m') Q) tail (fun s hs ih m' p' f' => ?_) 0 (Nat.zero_le _) m hp (fM_refl _ _ _)
  · have e0 : v 0 = -1 := if_pos rfl
    rw [e0] at main
    exact main
  · refine b_X10_fewest_35 ?_
    rw [p'.1, e1]
    refine pk_le (2 ^ gn G) s (fun z => by omega) (fun _ => ?_)
    have hsA : s < A := hs
    have cfull := ct_full (gn G) h7 s hsA
    have hl := hfl s (by omega)
    have c1 := fb_ct_le s.testBit 7
    have c2 := fb_ct_le (fwt G s).testBit 7
    -- the cells behind it
    have cells : fb_ct s.testBit 7 < fb_ct (fwt G s).testBit 7 → ∀ m', pD m' G → fM [25] [819, 820, 821] m m' → Ok g gr (d + 5) mX10_cellsBy 0 0 [.ref 810, .int (nI s)] (mk m') (fun r h2 => WP g gr (d + 6) mX10_fewest 0 0 66 [.ref 810, .retAddr 0, .int (v s), .int (nI s)] (r.toList ++ []) h2 Q) := by
      intro hlt m' p' f'
      refine d_cellsBy (by omega) hG p' (by omega) (fun m2 f2 => b_X10_fewest_66 ?_)
      have hbq : bsq G s ≤ 7 := by
        have hw := bss_cwf hG s (gn G) (Nat.le_refl _)
        have := cwf_le (rf_all h7 7 _ _ hw).1
        show (rf G 7 _ _).2.1 ≤ 7
        omega
      rw [(pD_fM p' f2).1, nI_eq (by omega) (by omega), nI_1]
      have ih2 := ih m2 (pD_fM p' f2) (fM_trans f' f2)
      refine ⟨fun z => ?_, fun z => ?_⟩
      · have ev : v (s + 1) = v s := by show (if fwt G (s + 1) = A then _ else _) = _; rw [fn s (fun y => z y.2)]
        rw [ev] at ih2; exact ih2
      · have ev : v (s + 1) = nI s := by
          show (if fwt G (s + 1) = A then (-1 : Int32) else nI (fwt G (s + 1))) = _
          rw [fy s ⟨hlt, z⟩, if_neg (by omega)]
        rw [ev] at ih2; exact ih2
    by_cases z : fwt G s = A
    · have ev : v s = -1 := if_pos z
      refine ⟨fun _ => cells (by rw [z]; exact cfull) m' p' f', fun y => absurd ev y⟩
    · have ev : v s = nI (fwt G s) := if_neg z
      refine ⟨fun y => absurd (ev.symm.trans y) (neg _ hl), fun _ => ?_⟩
      refine d_ones (by omega) (b_X10_fewest_54 ?_)
      have od : Ok g gr (d + 5) mX10_ones 0 0 [.int (nI (fwt G s))] (mk m') (fun r h2 => WP g gr (d + 6) mX10_fewest 0 0 58 [.ref 810, .retAddr 0, .int (nI (fwt G s)), .int (nI s)] (r.toList ++ [.int (nI (fb_ct s.testBit 7))]) h2 Q) := by
        refine d_ones hl (b_X10_fewest_58 ?_)
        rw [nI_1]
        refine pk_le (fb_ct (fwt G s).testBit 7) (fb_ct s.testBit 7) (fun y => ?_) (fun y => ?_)
        · have ev2 : v (s + 1) = v s := by show (if fwt G (s + 1) = A then _ else _) = _; rw [fn s (fun x => by omega)]
          have ih2 := ih m' p' f'
          rw [ev2, ev] at ih2; exact ih2
        · have := cells y m' p' f'
          rw [ev] at this
          exact this
      rw [ev]
      exact od
theorem x_fewest {s : Sg} (hs : sOK s) (l1 : Int32) : BX s mX9_fewest mX10_fewest [.int l1] := by
  rcases i_case l1 3 (by decide) with h | ⟨w, hw, rfl⟩
  · refine ⟨qs s 1, -1, sOK_qs hs 1, fun g gr e m Q he hc K => ?_, fun g gr e m Q he hm K => ?_⟩
    · obtain ⟨d, rfl⟩ := dn (show 6 ≤ e by omega)
      exact b_X9_fewest_0 (rg_n h (K _ (CR_t hc) fC_t))
    · obtain ⟨d, rfl⟩ := dn (show 6 ≤ e by omega)
      refine b_X10_fewest_0 ?_
      rintro m1 rfl
      exact ite_n (isG_n h) (m_no hm K)
  · have hG := hs.1 w hw
    have h7 := hG.2.1.2
    refine ⟨qs s 0, nI (fwt (y_W s w) (2 ^ gn (y_W s w) - 1)), sOK_qs hs 0, fun g gr e m Q he hc K => ?_, fun g gr e m Q he hm K => ?_⟩
    · obtain ⟨d, rfl⟩ := dn (show 6 ≤ e by omega)
      refine b_X9_fewest_0 (rg_y hw ⟨pk_in w 3 hw, ?_⟩)
      rw [cw (by omega)]
      exact k_fewestApart (s272 hw) (by omega) hG (hc.1.1 w hw) (by omega) (fun m1 a1 => b_X9_fewest_22 (K _ (CR_t (CR_fz hc a1 (by omega))) (fC_trans (fC_fz a1 (by omega)) fC_t)))
    · obtain ⟨d, rfl⟩ := dn (show 6 ≤ e by omega)
      have hb := MR_b hm
      refine b_X10_fewest_0 ?_
      rintro m1 rfl
      refine ite_y (isG_y hw) ⟨MR_1 hb, d_lays (by omega) hG hw (hb.1 w hw) (fun m2 a1 a2 => b_X10_fewest_31 ?_)⟩
      exact d_fewestTail hG a1 (fun m3 b1 => K _ (MR_fM (MR_fM hb a2) b1) (fX_trans fX_b (fX_trans (fX_fM a2) (fX_fM b1))))
end ZAs
