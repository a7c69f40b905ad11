/-! questions: less, cards, bases, the fewest set apart -/
section ZAs
theorem c_searchF {g : zG} {gr : Bool} {e : Nat} {m : zm} {Q : Option Value → zH → Prop} {s : Sg} {w : Nat} (he : 14 ≤ e) (hs : sOK s) (hw : w < 3) (hc : CR s m) (K : ∀ m', CR s m' → fC m m' → pF m' (347 + 140 * w + 21) (gn (y_W s w)) (S_t (srch (y_W s w))) → fz (347 + 140 * w) (412 + 140 * w) m m' → Q (some (.ref (347 + 140 * w))) (mk m')) : Ok g gr e mX9_searchOf 0 0 [.ref 1, .int (nI w)] (mk m) Q := by
  obtain ⟨d, rfl⟩ := dn he
  refine b_X9_searchOf_0 ⟨pk_in w 3 hw, ?_⟩
  rw [cw (by omega)]
  refine k_look6 (s347 hw) (s272 hw) (by omega) (hs.1 w hw) (hc.1.1 w hw) (by omega) (hc.2.2.1 w hw) (fun m' a1 a2 a3 a4 => b_X9_searchOf_17 (s347 hw) (K m' ⟨CC_fQ hc.1 (fQ_fzw a4 hw (by omega)), ?_⟩ (fC_fz a4 (by omega)) (a3.2.2.2.2.2.2.2 (best_same (hs.1 w hw)).1).2 (by rw [show 412 + 140 * w = 347 + 140 * w + 65 by omega]; exact a4)))
  refine ⟨fun x hx => seen7_eq (hc.2.1 x hx) fun a h1 h2 => a4 a ?_, fun x hx => ?_, seen6_eq hc.2.2.2 fun a h1 h2 => a4 a (by omega)⟩
  · have : w = 0 ∨ w = 1 ∨ w = 2 := by omega
    have : x = 0 ∨ x = 1 ∨ x = 2 := by omega
    omega
  · by_cases z : x = w
    · subst z; exact Or.inr ⟨a1, _, hs.1 x hx, a2, a3⟩
    · refine seen6_eq (hc.2.2.1 x hx) fun a h1 h2 => a4 a ?_
      have : w = 0 ∨ w = 1 ∨ w = 2 := by omega
      have : x = 0 ∨ x = 1 ∨ x = 2 := by omega
      omega
theorem x_less {s : Sg} (hs : sOK s) (l1 l2 : Int32) : BX s mX9_less mX10_less [.int l1, .int l2] := by
  rcases i_case l1 3 (by decide) with h | ⟨w, hw, rfl⟩
  · refine ⟨qs s 1, -1, sOK_qs hs 1, fun g gr e m Q he hc K => ?_, fun g gr e m Q he hm K => ?_⟩
    · obtain ⟨d, rfl⟩ := dn (show 15 ≤ e by omega)
      exact b_X9_less_0 (rg_n h (rg_any (K _ (CR_t hc) fC_t)))
    · obtain ⟨d, rfl⟩ := dn (show 15 ≤ e by omega)
      refine b_X10_less_0 ?_
      rintro m1 rfl
      exact ite_n (isG_n h) (m_no hm K)
  · rcases i_case l2 3 (by decide) with h2 | ⟨u, hu, rfl⟩
    · refine ⟨qs s 1, -1, sOK_qs hs 1, fun g gr e m Q he hc K => ?_, fun g gr e m Q he hm K => ?_⟩
      · obtain ⟨d, rfl⟩ := dn (show 15 ≤ e by omega)
        exact b_X9_less_0 (rg_y hw ⟨pk_in w 3 hw, rg_n h2 (K _ (CR_t hc) fC_t)⟩)
      · obtain ⟨d, rfl⟩ := dn (show 15 ≤ e by omega)
        refine b_X10_less_0 ?_
        rintro m1 rfl
        exact ite_y (isG_y hw) (ite_n (isG_n h2) (m_no hm K))
    · have hG := hs.1 w hw
      have hH := hs.1 u hu
      have h7 := hG.2.1.2
      have h7' := hH.2.1.2
      have hl := srch_best hG
      have hl' := srch_best hH
      have eG := (best_same hG).2.2
      have eH := (best_same hH).2.2
      -- what the class comes to
      have cls : ∀ (g : zG) (gr : Bool) (d : Nat) (m : zm) (Q : Option Value → zH → Prop), CR s m → (∀ m' (r : Int32), CR s m' → fC m m' → (r < 0 ↔ (gn (y_W s w) < gn (y_W s u) ∨ (gn (y_W s w) = gn (y_W s u) ∧ kc (S_t (srch (y_W s w))) < kc (S_t (srch (y_W s u)))))) → (r = 0 ↔ (gn (y_W s w) = gn (y_W s u) ∧ kc (S_t (srch (y_W s w))) = kc (S_t (srch (y_W s u))))) → WP g gr (d + 15) mX9_less 0 0 47 [.ref 1, .retAddr 0, .retAddr 0, .retAddr 0, .retAddr 0, .retAddr 0] [.int r] (mk m') Q) → Ok g gr (d + 15) mX9_less 0 0 [.ref 1, .int (nI w), .int (nI u)] (mk m) Q := by
        intro g gr d m Q hc HH
        refine b_X9_less_0 (rg_y hw ⟨pk_in w 3 hw, rg_y hu ⟨pk_in u 3 hu, ?_⟩⟩)
        refine c_searchF (by omega) hs hw hc (fun m1 a1 a2 a3 _ => b_X9_less_33 (s347 hw) ?_)
        refine c_searchF (by omega) hs hu a1 (fun m2 b1 b2 b3 b4 => b_X9_less_41 (s347 hu) (sX6_21 (s347 hw)) ?_)
        have p2 : pF m2 (347 + 140 * w + 21) (gn (y_W s w)) (S_t (srch (y_W s w))) := by
          by_cases z : w = u
          · subst z; exact b3
          · refine pF_fz a3 b4 ?_
            have : w = 0 ∨ w = 1 ∨ w = 2 := by omega
            have : u = 0 ∨ u = 1 ∨ u = 2 := by omega
            omega
        exact k_compareCodes (sX6_21 (s347 hw)) (sX6_21 (s347 hu)) (by omega) h7 h7' p2 b3 hl.2.1 hl'.2.1 (fun r r1 r2 => HH m2 r b1 (fC_trans a2 b2) r1 r2)
      have fin : ∀ (v : Int32), (∀ r : Int32, (r < 0 ↔ (gn (y_W s w) < gn (y_W s u) ∨ (gn (y_W s w) = gn (y_W s u) ∧ kc (S_t (srch (y_W s w))) < kc (S_t (srch (y_W s u)))))) → (r = 0 ↔ (gn (y_W s w) = gn (y_W s u) ∧ kc (S_t (srch (y_W s w))) = kc (S_t (srch (y_W s u))))) → (v = 0 ∧ r < 0) ∨ (v = 1 ∧ ¬ r < 0 ∧ ¬ r = 0) ∨ (v = 2 ∧ r = 0)) → CX s (qs s 0) v mX9_less [.int (nI w), .int (nI u)] := by
        intro v hv g gr e m Q he hc K
        obtain ⟨d, rfl⟩ := dn (show 15 ≤ e by omega)
        refine cls g gr d m Q hc (fun m' r a1 a2 r1 r2 => b_X9_less_47 ?_)
        rcases hv r r1 r2 with ⟨rfl, z⟩ | ⟨rfl, z1, z2⟩ | ⟨rfl, z⟩
        · exact ⟨fun y => absurd z (Int32.not_lt.mpr y), fun _ => K _ (CR_t a1) (fC_trans a2 fC_t)⟩
        · refine ⟨fun y => ⟨fun y2 => absurd (Int32.le_antisymm y2 y) z2, fun _ => K _ (CR_t a1) (fC_trans a2 fC_t)⟩, fun y => absurd (Int32.not_lt.mp z1) y⟩
        · subst z
          exact ⟨fun _ => ⟨fun _ => K _ (CR_t a1) (fC_trans a2 fC_t), fun y => absurd (by decide) y⟩, fun y => absurd (by decide) y⟩
      by_cases hn : gn (y_W s w) = gn (y_W s u)
      · -- by the codes
        have mdl : ∀ (g : zG) (gr : Bool) (d : Nat) (m : zm) (Q : Option Value → zH → Prop), MR s m → (∀ m' (r : Int32), MR (qs s 0) m' → fX m m' → (r < 0 ↔ kc (S_t (srch (y_W s w))) < kc (S_t (srch (y_W s u)))) → (r = 0 ↔ kc (S_t (srch (y_W s w))) = kc (S_t (srch (y_W s u)))) → WP g gr (d + 15) mX10_less 0 0 101 [.retAddr 0, .retAddr 0, .retAddr 0, .retAddr 0] [.int r] (mk m') Q) → Ok g gr (d + 15) mX10_less 0 0 [.ref 810, .int (nI w), .int (nI u)] (mk m) Q := by
          intro g gr d m Q hm HH
          have hb := MR_b hm
          have pw : pW (wBegins m) w (y_W s w) := hb.1 w hw
          have pu : pW (wBegins m) u (y_W s u) := hb.1 u hu
          refine b_X10_less_0 ?_
          rintro m1 rfl
          refine ite_y (isG_y hw) (ite_y (isG_y hu) ⟨MR_1 hb, ?_⟩)
          rw [e57, e57, c57 hw, c57 hu, pw.1, pu.1]
          refine ⟨v57 hw, v57 hu, ite_y (congrArg nI hn) ?_⟩
          refine d_lays (by omega) hG hw pw (fun m2 a1 a2 => b_X10_less_70 (d_keepsName (v := 0) (by omega) hG a1 (by decide) (fun m3 b1 _ b3 => b_X10_less_75 ?_)))
          refine d_lays (by omega) hH hu (pW_fM (pW_fM pu a2) b3) (fun m4 c1 c2 => b_X10_less_80 (d_keepsName (v := 1) (by omega) hH c1 (by decide) (fun m5 i1 i2 i3 => b_X10_less_85 ?_)))
          refine d_compares (i := 0) (j := 28) (many := 28) (B := 10) (f := l_c (S_t (srch (y_W s w)))) (h := l_c (S_t (srch (y_W s u)))) a_828 a_828 (by omega) (by omega) (by decide) (by decide) (by decide) (fun k hk => ⟨?_, hl.2.1.1 k⟩) (fun k hk => ⟨?_, hl'.2.1.1 k⟩) (fun r r1 r2 => HH m5 r (MR_fM (MR_fM (MR_fM (MR_fM hb a2) b3) c2) i3) (fX_trans fX_b (fX_trans (fX_fM a2) (fX_trans (fX_fM b3) (fX_trans (fX_fM c2) (fX_fM i3))))) r1 r2)
          · rw [Nat.zero_add, i2 k (by omega), fM_1 c2, eG]
            have := b1 k hk
            rw [Nat.mul_zero, Nat.zero_add] at this
            exact this
          · rw [eH]; exact i1 k hk
        rcases Nat.lt_trichotomy (kc (S_t (srch (y_W s w)))) (kc (S_t (srch (y_W s u)))) with z | z | z
        · refine ⟨qs s 0, 0, sOK_qs hs 0, fin 0 (fun r r1 r2 => Or.inl ⟨rfl, r1.mpr (Or.inr ⟨hn, z⟩)⟩), fun g gr e m Q he hm K => ?_⟩
          obtain ⟨d, rfl⟩ := dn (show 15 ≤ e by omega)
          exact mdl g gr d m Q hm (fun m' r a1 a2 r1 r2 => b_X10_less_101 ⟨fun y => absurd (r1.mpr z) (Int32.not_lt.mpr y), fun _ => K _ a1 a2⟩)
        · refine ⟨qs s 0, 2, sOK_qs hs 0, fin 2 (fun r r1 r2 => Or.inr (Or.inr ⟨rfl, r2.mpr ⟨hn, z⟩⟩)), fun g gr e m Q he hm K => ?_⟩
          obtain ⟨d, rfl⟩ := dn (show 15 ≤ e by omega)
          refine mdl g gr d m Q hm (fun m' r a1 a2 r1 r2 => b_X10_less_101 ?_)
          rw [r2.mpr z]
          exact ⟨fun _ => ⟨fun _ => K _ a1 a2, fun y => absurd (by decide) y⟩, fun y => absurd (by decide) y⟩
        · refine ⟨qs s 0, 1, sOK_qs hs 0, fin 1 (fun r r1 r2 => Or.inr (Or.inl ⟨rfl, fun y => by rcases r1.mp y with y | y <;> omega, fun y => by have := (r2.mp y).2; omega⟩)), fun g gr e m Q he hm K => ?_⟩
          obtain ⟨d, rfl⟩ := dn (show 15 ≤ e by omega)
          exact mdl g gr d m Q hm (fun m' r a1 a2 r1 r2 => b_X10_less_101 ⟨fun y => ⟨fun y2 => absurd (r2.mp (Int32.le_antisymm y2 y)) (by omega), fun _ => K _ a1 a2⟩, fun y => absurd (r1.mp (Int32.not_le.mp y)) (by omega)⟩)
      · have hne : ¬ nI (gn (y_W s w)) = nI (gn (y_W s u)) := fun z => hn ((nI_eq (by omega) (by omega)).mp z)
        have mdl : ∀ (g : zG) (gr : Bool) (d : Nat) (m : zm) (Q : Option Value → zH → Prop), MR s m → (gn (y_W s u) ≤ gn (y_W s w) → Q (some (.int 1)) (mk (wBegins m))) → (gn (y_W s w) < gn (y_W s u) → Q (some (.int 0)) (mk (wBegins m))) → Ok g gr (d + 15) mX10_less 0 0 [.ref 810, .int (nI w), .int (nI u)] (mk m) Q := by
          intro g gr d m Q hm H1 H0
          have hb := MR_b hm
          have pw : pW (wBegins m) w (y_W s w) := hb.1 w hw
          have pu : pW (wBegins m) u (y_W s u) := hb.1 u hu
          refine b_X10_less_0 ?_
          rintro m1 rfl
          refine ite_y (isG_y hw) (ite_y (isG_y hu) ⟨MR_1 hb, ?_⟩)
          rw [e57, e57, c57 hw, c57 hu, pw.1, pu.1]
          exact ⟨v57 hw, v57 hu, ite_n hne (pk_le (gn (y_W s u)) (gn (y_W s w)) H1 H0)⟩
        by_cases hlt : gn (y_W s w) < gn (y_W s u)
        · refine ⟨qs s 0, 0, sOK_qs hs 0, fin 0 (fun r r1 r2 => Or.inl ⟨rfl, r1.mpr (Or.inl hlt)⟩), fun g gr e m Q he hm K => ?_⟩
          obtain ⟨d, rfl⟩ := dn (show 15 ≤ e by omega)
          exact mdl g gr d m Q hm (fun z => absurd z (by omega)) (fun _ => K _ (MR_b hm) fX_b)
        · refine ⟨qs s 0, 1, sOK_qs hs 0, fin 1 (fun r r1 r2 => Or.inr (Or.inl ⟨rfl, fun y => by rcases r1.mp y with y | y <;> omega, fun y => hn (r2.mp y).1⟩)), fun g gr e m Q he hm K => ?_⟩
          obtain ⟨d, rfl⟩ := dn (show 15 ≤ e by omega)
          exact mdl g gr d m Q hm (fun _ => K _ (MR_b hm) fX_b) (fun z => absurd z hlt)
theorem x_base {s : Sg} (hs : sOK s) (l1 l2 : Int32) : BX s mX9_base mX10_base [.int l1, .int l2] := by
  rcases i_case l1 3 (by decide) with h | ⟨w, hw, rfl⟩
  · refine ⟨qs s 1, -1, sOK_qs hs 1, fun g gr e m Q he hc K => ?_, fun g gr e m Q he hm K => ?_⟩
    · obtain ⟨d, rfl⟩ := dn (show 5 ≤ e by omega)
      exact b_X9_base_0 (rg_n h (K _ (CR_t hc) fC_t))
    · obtain ⟨d, rfl⟩ := dn (show 6 ≤ e by omega)
      refine b_X10_base_0 ?_
      rintro m1 rfl
      exact ite_n (isG_n h) (m_no hm K)
  · have hG := hs.1 w hw
    have h7 := hG.2.1.2
    have h27 := p7 h7
    rcases i_case l2 (2 ^ gn (y_W s w)) (by omega) with h2 | ⟨k, hk, rfl⟩
    · refine ⟨qs s 2, -1, sOK_qs hs 2, fun g gr e m Q he hc K => ?_, fun g gr e m Q he hm K => ?_⟩
      · obtain ⟨d, rfl⟩ := dn (show 5 ≤ e by omega)
        refine b_X9_base_0 (rg_y hw ⟨pk_in w 3 hw, ?_⟩)
        rw [cw (by omega)]
        exact ite_n (all_n h2 h7 (W_n hc hw)) (K _ (CR_t hc) fC_t)
      · obtain ⟨d, rfl⟩ := dn (show 6 ≤ e by omega)
        have hb := MR_b hm
        refine b_X10_base_0 ?_
        rintro m1 rfl
        refine ite_y (isG_y hw) ⟨MR_1 hb, ?_⟩
        rw [e57, c57 hw]
        exact set_n h2 h7 (hb.1 w hw).1 (m_no hm K).2 (v57 hw)
    · refine ⟨qs s 0, nI (bsq (y_W s w) k), sOK_qs hs 0, fun g gr e m Q he hc K => ?_, fun g gr e m Q he hm K => ?_⟩
      · obtain ⟨d, rfl⟩ := dn (show 5 ≤ e by omega)
        refine b_X9_base_0 (rg_y hw ⟨pk_in w 3 hw, ?_⟩)
        rw [cw (by omega)]
        refine ite_y (all_y hk h7 (W_n hc hw)) (k_begin a_152 (s272 hw) (by omega) hG (hc.1.1 w hw) (by omega) (fun m1 a1 _ a4 => b_X9_base_38 (s272 hw) ?_))
        have c1 := CR_fz hc a4 (by omega)
        exact k_cellsWith (s272 hw) (by omega) hG (c1.1.1 w hw) a1 (by omega) (by omega) (fun m2 b4 => b_X9_base_45 (K _ (CR_t (CR_fz c1 b4 (by omega))) (fC_trans (fC_fz a4 (by omega)) (fC_trans (fC_fz b4 (by omega)) fC_t))))
      · obtain ⟨d, rfl⟩ := dn (show 6 ≤ e by omega)
        have hb := MR_b hm
        refine b_X10_base_0 ?_
        rintro m1 rfl
        refine ite_y (isG_y hw) ⟨MR_1 hb, ?_⟩
        rw [e57, c57 hw]
        exact set_y hk h7 (hb.1 w hw).1 (d_lays (by omega) hG hw (hb.1 w hw) (fun m2 a1 a2 => b_X10_base_53 (d_cellsBy (by omega) hG a1 (by omega) (fun m3 b1 => b_X10_base_58 (K _ (MR_fM (MR_fM hb a2) b1) (fX_trans fX_b (fX_trans (fX_fM a2) (fX_fM b1)))))))) (v57 hw)
end ZAs
