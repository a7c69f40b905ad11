/-! acts: shuffle -/
theorem sd_case (l : Int32) : l < 1 ∨ (¬ l < 1 ∧ l = 2147483647) ∨ ∃ k, 1 ≤ k ∧ k < 2147483647 ∧ l = nI k := by
  by_cases h : l < 1
  · exact Or.inl h
  · have h0 : ¬ l < 0 := fun z => h (Int32.lt_trans z (by decide))
    obtain ⟨n, hn, rfl⟩ := i_neg h0
    by_cases z : n < 2147483647
    · refine Or.inr (Or.inr ⟨n, ?_, z, rfl⟩)
      rcases Nat.eq_zero_or_pos n with q | q
      · subst q; exact absurd (by decide) h
      · exact q
    · have : n = 2147483647 := by omega
      subst this
      exact Or.inr (Or.inl ⟨h, rfl⟩)
section ZSf
/-- what the draw and the exchanges of a shuffle leave -/
def shF (w : Nat) (m m' : zm) : Prop := (∀ j, (j < 57 * w ∨ 57 * w + 57 ≤ j) → m'.1 811 j = m.1 811 j) ∧ (∀ a, a ≠ 811 → m'.1 a = m.1 a) ∧ fX m m'
theorem shF_refl (w : Nat) (m : zm) : shF w m m := ⟨fun _ _ => rfl, fun _ _ => rfl, fX_refl _⟩
theorem shF_trans {w : Nat} {m m' m'' : zm} (h1 : shF w m m') (h2 : shF w m' m'') : shF w m m'' := ⟨fun j h => (h2.1 j h).trans (h1.1 j h), fun a h => (h2.2.1 a h).trans (h1.2.1 a h), fX_trans h1.2.2 h2.2.2⟩
theorem shF_L {w : Nat} {m : zm} {v : Int64} : shF w m (wL m 810 62 v) := ⟨fun _ _ => rfl, fun _ _ => rfl, fun a ha => ⟨rfl, funext fun k => rL_n (fun q => by omega)⟩⟩
theorem shF_S {w : Nat} {m m' : zm} (h1 : ∀ j, (j < 57 * w ∨ 57 * w + 57 ≤ j) → m'.1 811 j = m.1 811 j) (h2 : fM [] [811] m m') : shF w m m' := ⟨h1, fun a ha => by
  by_cases z : a = 810
  · subst z; exact funext fun k => fM_2 h2 (by simp)
  · exact h2.1 a z (by simpa using ha), fX_fM h2⟩
theorem pW_L {w : Nat} {m : zm} {v : Int64} {G : Gr} (h : pW m w G) : pW (wL m 810 62 v) w G := h
theorem d_shuf {g : zG} {gr : Bool} {d : Nat} {Q : Option Value → zH → Prop} {w : Nat} (hw : w < 3) : ∀ (i x : Nat) (G : Gr) (c : Nat) (m : zm), x < 2147483647 → c + i < 8 → i < gn G → gWF G → pW m w G → m.2 810 62 = lN x → (∀ m', pW m' w (mxs i x G c).1 → shF w m m' → Q (some (.int (nI (mxs i x G c).2))) (mk m')) → WP g gr (d + 2) mX10_shuffle 0 0 71 [.ref 810, .int (nI w), .retAddr 0, .int (nI c), .int (nI i), .retAddr 0] [] (mk m) Q := by
  intro i
  induction i with
  | zero =>
    intro x G c m _ _ _ _ h3 h4 h5
    exact b_X10_shuffle_71 (pk_le 0 0 (fun _ => h5 m h3 (shF_refl _ _)) (fun z => absurd z (Nat.lt_irrefl _)))
  | succ i ih =>
    intro x G c m h0 hc h1 h2 h3 h4 h5
    have hn' := h2.2.1.2
    have hx : 48271 * x < 2 ^ 63 := by omega
    have hdw : dw x < 2147483647 := Nat.mod_lt _ (by decide)
    have e1 : lN x * (48271 : Int64) - lN x * (48271 : Int64) / (2147483647 : Int64) * (2147483647 : Int64) = lN (dw x) := by
      rw [show (48271 : Int64) = lN 48271 from rfl, show (2147483647 : Int64) = lN 2147483647 from rfl, lN_mul, Nat.mul_comm x, pk_lRem hx (by decide) (by decide)]
      rfl
    have e2 : (nI (i + 1) + (1 : Int32)).toInt64 = lN (i + 2) := by rw [nI_1, nI_l (show i + 1 + 1 < 2 ^ 31 by omega)]
    have e3 : lN (dw x) - lN (dw x) / lN (i + 2) * lN (i + 2) = lN (dw x % (i + 2)) := pk_lRem (by omega) (by omega) (by omega)
    have hm : dw x % (i + 2) < i + 2 := Nat.mod_lt _ (by omega)
    have e4 : nI (i + 1) + (-1 : Int32) = nI i := pk_m1 i
    refine b_X10_shuffle_71 (pk_le (i + 1) 0 (fun z => by omega) (fun _ => ?_))
    rw [h4, e1, e2]
    rintro m1 rfl
    refine ⟨?_, ?_⟩
    · rw [show (0 : Int64) = lN 0 from rfl, lN_eq (by omega) (by decide)]; omega
    · rw [rL_s, e3, lN_i]
      refine pk_eq _ _ (fun z => ?_) (fun z => ?_)
      · rw [e4]
        refine ih (dw x) G c _ hdw (by omega) (by omega) h2 (pW_L h3) rL_s (fun m' a1 a2 => ?_)
        have : mxs (i + 1) x G c = mxs i (dw x) G c := by show (if _ then _ else _) = _; rw [if_pos z]
        rw [this] at h5
        exact h5 m' a1 (shF_trans shF_L a2)
      · refine d_swaps (by omega) h2 hw (pW_L h3) h1 (by omega) (by omega) (fun m2 p2 q2 f2 => ?_)
        refine b_X10_shuffle_102 ?_
        rw [e4, nI_1]
        refine ih (dw x) (gX G (i + 1) (dw x % (i + 2))) (c + 1) m2 hdw (by omega) (by show i < gn G; omega) (gX_WF h2 h1 (by omega)) p2 (by rw [f2.2.2]; exact rL_s) (fun m' a1 a2 => ?_)
        have : mxs (i + 1) x G c = mxs i (dw x) (gX G (i + 1) (dw x % (i + 2))) (c + 1) := by show (if _ then _ else _) = _; rw [if_neg z]
        rw [this] at h5
        exact h5 m' a1 (shF_trans shF_L (shF_trans (shF_S q2 f2) a2))
end ZSf
section ZAc
theorem x_shuffle {s : Sg} (hs : sOK s) (l1 l2 : Int32) : BX s mX9_shuffle mX10_shuffle [.int l1, .int l2] := by
  rcases i_case l1 3 (by decide) with h | ⟨w, hw, rfl⟩
  · refine ⟨qs s 1, -1, sOK_qs hs 1, fun g gr e m Q he hc K => ?_, fun g gr e m Q he hm K => ?_⟩
    · obtain ⟨d, rfl⟩ := dn (show 4 ≤ e by omega)
      exact b_X9_shuffle_0 (rg_n h (K _ (CR_t hc) fC_t))
    · obtain ⟨d, rfl⟩ := dn (show 2 ≤ e by omega)
      refine b_X10_shuffle_0 ?_
      rintro m1 rfl
      exact ite_n (isG_n h) (m_no hm K)
  · have hG := hs.1 w hw
    have h7 := hG.2.1.2
    have hn1 := hG.2.1.1
    rcases sd_case l2 with hl | ⟨hl, rfl⟩ | ⟨k, k1, k2, rfl⟩
    · refine ⟨qs s 2, -1, sOK_qs hs 2, fun g gr e m Q he hc K => ?_, fun g gr e m Q he hm K => ?_⟩
      · obtain ⟨d, rfl⟩ := dn (show 4 ≤ e by omega)
        refine b_X9_shuffle_0 (rg_y hw ⟨pk_in w 3 hw, ?_⟩)
        exact ⟨fun _ => K _ (CR_t hc) fC_t, fun z => absurd hl z⟩
      · obtain ⟨d, rfl⟩ := dn (show 2 ≤ e by omega)
        have hb := MR_b hm
        refine b_X10_shuffle_0 ?_
        rintro m1 rfl
        exact ite_y (isG_y hw) ⟨MR_1 hb, fun z => absurd z (fun z => z.1 hl), fun _ => (m_no hm K).2⟩
    · refine ⟨qs s 2, -1, sOK_qs hs 2, fun g gr e m Q he hc K => ?_, fun g gr e m Q he hm K => ?_⟩
      · obtain ⟨d, rfl⟩ := dn (show 4 ≤ e by omega)
        refine b_X9_shuffle_0 (rg_y hw ⟨pk_in w 3 hw, ?_⟩)
        exact ⟨fun z => absurd z (by decide), fun _ => ⟨fun z => absurd z (by decide), fun _ => K _ (CR_t hc) fC_t⟩⟩
      · obtain ⟨d, rfl⟩ := dn (show 2 ≤ e by omega)
        have hb := MR_b hm
        refine b_X10_shuffle_0 ?_
        rintro m1 rfl
        exact ite_y (isG_y hw) ⟨MR_1 hb, fun z => absurd z (fun z => z.2 (by decide)), fun _ => (m_no hm K).2⟩
    · have hX := mxs_WF (gn (y_W s w) - 1) k (y_W s w) 0 hG (by omega)
      refine ⟨qs (gs (ks s w) w (mxs (gn (y_W s w) - 1) k (y_W s w) 0).1) 0, nI (mxs (gn (y_W s w) - 1) k (y_W s w) 0).2, sOK_qs (sOK_gs (sOK_ks hs hw) hX) 0, fun g gr e m Q he hc K => ?_, fun g gr e m Q he hm K => ?_⟩
      · obtain ⟨d, rfl⟩ := dn (show 4 ≤ e by omega)
        refine b_X9_shuffle_0 (rg_y hw ⟨pk_in w 3 hw, ?_⟩)
        rw [cw (show w < 2 ^ 31 by omega)]
        refine ⟨fun z => absurd z (nI_nlt k1 (by omega)), fun _ => ⟨fun _ => ?_, fun z => absurd (show nI k < (2147483647 : Int32) from nI_lt k2 (by decide)) z⟩⟩
        refine c_keep (by omega) hs hw hc (fun m1 a1 a2 => b_X9_shuffle_43 (s272 hw) ?_)
        refine k_mix (s272 hw) (by omega) hG (a1.1.1 w hw) k2 (fun m2 b1 b2 => b_X9_shuffle_49 ?_)
        exact K _ (CR_t (CR_g hw a1 b1 (by rw [show 287 + 140 * w = 272 + 140 * w + 15 by omega]; exact b2))) (fC_trans a2 (fC_trans (fC_fz b2 (by omega)) fC_t))
      · obtain ⟨d, rfl⟩ := dn (show 2 ≤ e by omega)
        have hb := MR_b hm
        have pw : pW (wBegins m) w (y_W s w) := hb.1 w hw
        have hin : tX10_in (nI k) 1 2147483646 := ⟨nI_nlt k1 (by omega), nI_nlt (show k ≤ 2147483646 by omega) (by decide)⟩
        refine b_X10_shuffle_0 ?_
        rintro m1 rfl
        refine ite_y (isG_y hw) ⟨MR_1 hb, fun _ => ?_, fun z => absurd hin z⟩
        refine d_keeps (w := w) (sOK_qs hs 0) hb (fun m1 a1 a2 => b_X10_shuffle_54 ?_)
        have p1 : pW m1 w (y_W s w) := a1.1 w hw
        rintro m2 rfl
        rw [e57, c57 hw, nI_l (show k < 2 ^ 31 by omega)]
        refine ⟨v57 hw, ?_⟩
        rw [wL_1, p1.1, show (1 : Int32) = nI 1 from rfl, pk_sub hn1]
        refine d_shuf hw (gn (y_W s w) - 1) k (y_W s w) 0 _ k2 (by omega) (by omega) hG (pW_L p1) rL_s (fun m3 b1 b2 => ?_)
        have b3 := shF_trans (shF_L (w := w) (v := lN k)) b2
        exact K _ (MR_g a1 b1 b3.1 (b3.2.1 812 (by decide)) (b3.2.1 813 (by decide)) (b3.2.1 814 (by decide)) (b3.2.1 815 (by decide)) (fun k _ => congrFun (b3.2.1 810 (by decide)) k)) (fX_trans fX_b (fX_trans (fX_fM a2) b3.2.2))
end ZAc
