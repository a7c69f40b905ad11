/-! text: the class's lines -/
section ZRe
variable {g : zG} {gr : Bool} {e : Nat} {Q : Option Value → zH → Prop} {m : zm} {b : Nat → Nat} {n : Nat}
theorem cP_G {m' : zm} {σ : Sr} {G : Gr} (h : cP m b n σ) (f : fz 6 21 m m') (hp : pG m' 6 G) : cP m' b n (σ.1, G, s_p σ) := by
  have q : ∀ k, m'.1 5 k = m.1 5 k := fun k => congrFun (f 5 (by decide)).1 k
  exact ⟨by rw [q]; exact h.1, fun i hi => by rw [(f 21 (by decide)).1]; exact h.2.1 i hi, by rw [q]; exact h.2.2.1, by rw [q]; exact h.2.2.2.1, by rw [q]; exact h.2.2.2.2.1, by rw [q]; exact h.2.2.2.2.2.1, hp⟩
theorem c_has_n {σ : Sr} (h : cP m b n σ) (hW : srW b n σ) (k1 : s_k σ = 1) (hv : gn (s_G σ) ≤ s_d b σ) : ¬ tX1_has m 6 (nI (s_d b σ)) :=
  has_n (Or.inr ⟨i_nn (by have := s_d_le hW k1; omega), nI_le hv (by have := s_d_le hW k1; omega)⟩) h.2.2.2.2.2.2.1
theorem c_has_y {σ : Sr} (h : cP m b n σ) (hW : srW b n σ) (hv : ¬ gn (s_G σ) ≤ s_d b σ) : tX1_has m 6 (nI (s_d b σ)) :=
  has_y (Nat.lt_of_not_le hv) h.2.2.2.2.2.2.1 (by have := hW.2.1.2.1.2; omega)
theorem k_joins (he : 1 ≤ e) {σ : Sr} (h : cP m b n σ) (hG : gWF (s_G σ)) {a v : Nat} (ha : a < gn (s_G σ)) (hv : v < gn (s_G σ)) (K1 : a = v ∨ ¬ gk (s_G σ) a v = 0 → ∀ m', cE m m' 3 (s_a σ) → Q (some (.int 0)) (mk m')) (K2 : ¬ (a = v ∨ ¬ gk (s_G σ) a v = 0) → ∀ m', cP m' b n (σ.1, gJ (s_G σ) a v 1, s_p σ) → fRk m m' → Q (some (.int 1)) (mk m')) : Ok g gr e mX5_joins 0 0 [.ref 5, .int (nI a), .int (nI v)] (mk m) Q := by
  obtain ⟨d, rfl⟩ := dn he
  have h7 := hG.2.1.2
  have hk := hG.1.2.1 a v
  refine b_X5_joins_0 (pk_eq a v (fun z => c_err h hG.1 rfl (K1 (Or.inl z))) (fun z => ⟨pk_in a 7 (by omega), pk_in v 7 (by omega), ?_⟩))
  rw [cw (show a < 2 ^ 31 by omega), cw (show v < 2 ^ 31 by omega)]
  have e1 : m.1 (9 + a) v = nI (gk (s_G σ) a v) := h.2.2.2.2.2.2.2.2.1 a v (by omega) (by omega)
  rw [e1]
  refine pk_eq (gk (s_G σ) a v) 0 (fun y => ?_) (fun y => c_err h hG.1 rfl (K1 (Or.inr y)))
  refine k_join (show sX1 6 from a_6) h.2.2.2.2.2.2 (show a < 7 by omega) (show v < 7 by omega) z (show (1 : Nat) < 4 by decide) (fun m' a1 a2 => b_X5_joins_35 ?_)
  exact K2 (by rintro (q | q); exact z q; exact q y) m' (cP_G h a2 a1) (fRk_G a2)
theorem k_readPaint (he : 2 ≤ e) (hb : ∀ i, b i < 256) (hn : n ≤ 400) {σ : Sr} (h : cP m b n σ) (hW : srW b n σ) (K : ∀ m' x, cR m m' b n (rPaint b n σ) x → Q (some (.int x)) (mk m')) : Ok g gr e mX5_readPaint 0 0 [.ref 5] (mk m) Q := by
  obtain ⟨d, rfl⟩ := dn he
  unfold rPaint at K
  have hG := hW.2.1
  have h7 := hG.2.1.2
  refine b_X5_readPaint_0 ?_
  by_cases k1 : s_k σ = 1
  · rw [if_neg (fun z => z k1)] at K
    obtain ⟨ha, hin, h4, ed⟩ := c_dig hn h hW k1
    have hd := s_d_le hW k1
    refine ⟨fun _ => ⟨fun z => absurd z h4, fun _ => ⟨hin, ?_⟩⟩, fun z => absurd (c_k1 h k1) z⟩
    rw [ed]
    by_cases hv : gn (s_G σ) ≤ s_d b σ
    · rw [if_pos hv] at K
      exact ite_n (c_has_n h hW k1 hv) (c_err h hG.1 rfl (fun m' a => K m' 0 (cR_l a)))
    · rw [if_neg hv] at K
      refine ite_y (c_has_y h hW hv) ?_
      have hp8 := hW.2.2
      rw [h.2.2.2.2.2.1]
      by_cases hp : (s_p σ).testBit (s_d b σ) = true
      · rw [if_pos hp] at K
        exact ite_y ((i_in (by omega) (by omega)).mpr hp) (c_err h hG.1 rfl (fun m' a => K m' 0 (cR_l a)))
      · rw [if_neg hp] at K
        refine ite_n (fun z => hp ((i_in (by omega) (by omega)).mp z)) ?_
        rw [i_sh1 (by omega), fa_or]
        rintro m1 rfl
        have h1 : cP (wI m 5 9 (nI (s_p σ ||| 2 ^ s_d b σ))) b n (σ.1, s_G σ, s_p σ ||| 2 ^ s_d b σ) := ⟨(rI_n (by decide)).trans h.1, fun i hi => (rI_n (by omega)).trans (h.2.1 i hi), (rI_n (by decide)).trans h.2.2.1, (rI_n (by decide)).trans h.2.2.2.1, (rI_n (by decide)).trans h.2.2.2.2.1, rI_s, pG_eq h.2.2.2.2.2.2 fun a h1 h2 => funext fun k => rI_n (by omega)⟩
        have f1 : fRk m (wI m 5 9 (nI (s_p σ ||| 2 ^ s_d b σ))) := ⟨⟨fun a ha => ⟨funext fun k => rI_n (by omega), rfl⟩, rI_n (by decide)⟩, rI_n (by decide)⟩
        have hW1 : srW b n (σ.1, s_G σ, s_p σ ||| 2 ^ s_d b σ) := ⟨hW.1, hW.2.1, or_128 hp8 (p2_7 (by omega))⟩
        have hW2 := (s_n_W hW1).1
        refine k_stepP (by omega) hb hn h1 hW.1.2.1 (fun m2 h2 f2 => b_X5_readPaint_47 ?_)
        by_cases k2 : s_k (s_n b n σ) = 1
        · rw [if_neg (fun z => z k2)] at K
          obtain ⟨ha2, hin2, h42, ed2⟩ := c_dig hn h2 hW2 k2
          refine ⟨fun _ => ⟨fun z => absurd z h42, fun _ => ⟨hin2, pk_in (s_d b σ) 7 (by omega), ?_⟩⟩, fun z => absurd (c_k1 h2 k2) z⟩
          rw [ed2, cw (show s_d b σ < 2 ^ 31 by omega)]
          rintro m3 rfl
          have h3 : cP (wI m2 7 (s_d b σ) (nI (s_d b (s_n b n σ)))) b n ((s_n b n σ).1, gP (s_G σ) (s_d b σ) (s_d b (s_n b n σ)), s_p σ ||| 2 ^ s_d b σ) := ⟨(rI_n (by omega)).trans h2.1, fun i hi => (rI_n (by omega)).trans (h2.2.1 i hi), (rI_n (by omega)).trans h2.2.2.1, (rI_n (by omega)).trans h2.2.2.2.1, (rI_n (by omega)).trans h2.2.2.2.2.1, (rI_n (by omega)).trans h2.2.2.2.2.2.1, by
            have p := h2.2.2.2.2.2.2
            refine ⟨(rI_n (by omega)).trans p.1, fun x hx => ?_, fun x y hx hy => (rI_n (by omega)).trans (p.2.2.1 x y hx hy), fun k x hk hx => (rI_n (by omega)).trans (p.2.2.2 k x hk hx)⟩
            by_cases z : x = s_d b σ
            · subst z; rw [gP_s]; exact rI_s
            · rw [gP_n z]; exact (rI_n (fun q => z q.2)).trans (p.2.1 x hx)⟩
          have f3 : fRk m2 (wI m2 7 (s_d b σ) (nI (s_d b (s_n b n σ)))) := ⟨⟨fun a ha => ⟨funext fun k => rI_n (by omega), rfl⟩, rI_n (by omega)⟩, rI_n (by omega)⟩
          refine k_stepP (by omega) hb hn h3 hW2.1.2.1 (fun m4 h4 f4 => b_X5_readPaint_78 ?_)
          exact K m4 1 (cR_r h4 (fRk_trans f1 (fRk_trans f2 (fRk_trans f3 f4))))
        · rw [if_pos k2] at K
          refine ⟨fun z => absurd z (c_kn h2 hW2 (by decide) k2), fun _ => c_err h2 hG.1 rfl (fun m' a => K m' 0 (cR_f (fRk_trans f1 f2) (cR_l a)))⟩
  · rw [if_pos k1] at K
    exact ⟨fun z => absurd z (c_kn h hW (by decide) k1), fun _ => c_err h hG.1 rfl (fun m' a => K m' 0 (cR_l a))⟩
theorem k_readLink (he : 2 ≤ e) (hb : ∀ i, b i < 256) (hn : n ≤ 400) {σ : Sr} (h : cP m b n σ) (hW : srW b n σ) (K : ∀ m' x, cR m m' b n (rLink b n σ) x → Q (some (.int x)) (mk m')) : Ok g gr e mX5_readLink 0 0 [.ref 5] (mk m) Q := by
  obtain ⟨d, rfl⟩ := dn he
  have hG := hW.2.1
  have h7 := hG.2.1.2
  refine b_X5_readLink_0 ?_
  by_cases k1 : s_k σ = 1
  · obtain ⟨ha, hin, h4, ed⟩ := c_dig hn h hW k1
    refine ⟨fun _ => ⟨fun z => absurd z h4, fun _ => ⟨hin, ?_⟩⟩, fun z => absurd (c_k1 h k1) z⟩
    rw [ed]
    by_cases hv : gn (s_G σ) ≤ s_d b σ
    · rw [rLink_2 k1 hv] at K
      exact ite_n (c_has_n h hW k1 hv) (c_err h hG.1 rfl (fun m' a => K m' 0 (cR_l a)))
    · refine ite_y (c_has_y h hW hv) ?_
      have hv' := Nat.lt_of_not_le hv
      have hW1 := (s_n_W hW).1
      refine k_stepP (by omega) hb hn h hW.1.2.1 (fun m1 h1 f1 => b_X5_readLink_18 ?_)
      by_cases k2 : s_k (s_n b n σ) = 1
      · obtain ⟨ha2, hin2, h42, ed2⟩ := c_dig hn h1 hW1 k2
        refine ⟨fun _ => ⟨fun z => absurd z h42, fun _ => ⟨hin2, ?_⟩⟩, fun z => absurd (c_k1 h1 k2) z⟩
        rw [ed2]
        by_cases hv2 : gn (s_G σ) ≤ s_d b (s_n b n σ)
        · rw [rLink_e k1 hv (rLnk_2 k2 hv2)] at K
          exact ite_n (c_has_n h1 hW1 k2 hv2) (c_err h1 hG.1 rfl (fun m' a => K m' 0 (cR_f f1 (cR_l a))))
        · refine ite_y (c_has_y h1 hW1 hv2) ?_
          have hv2' := Nat.lt_of_not_le hv2
          refine k_joins (by omega) h1 hG hv' hv2' (fun z m2 a => b_X5_readLink_38 ⟨fun y => absurd rfl y, fun _ => ?_⟩) (fun z m2 h2 f2 => b_X5_readLink_38 ⟨fun _ => ?_, fun y => absurd y (by decide)⟩)
          · rw [rLink_e k1 hv (rLnk_3 k2 hv2 z)] at K
            exact K m2 0 (cR_f f1 (cR_l a))
          · have er := rLnk_0 (b := b) (n := n) k2 hv2 z
            have hWt := (rLnk_W (a := s_d b σ) hW1 hv').1 _ er
            refine k_stepP (by omega) hb hn h2 hW1.1.2.1 (fun m3 h3 f3 => b_X5_readLink_47 ?_)
            have ff := fRk_trans f1 (fRk_trans f2 f3)
            have hGt := hWt.1.2.1
            by_cases k3 : s_k (s_n b n ((s_n b n σ).1, gJ (s_G (s_n b n σ)) (s_d b σ) (s_d b (s_n b n σ)) 1, s_p (s_n b n σ))) = 1
            · obtain ⟨ha3, hin3, h43, ed3⟩ := c_dig hn h3 hWt.1 k3
              have hd3 := s_d_le hWt.1 k3
              refine ⟨fun _ => ⟨fun y => absurd y h43, fun _ => ⟨hin3, ?_⟩⟩, fun y => absurd (c_k1 h3 k3) y⟩
              rw [ed3]
              refine pk_lt _ 1 (fun y => ?_) (fun y1 => pk_lt _ 4 (fun y2 => ?_) (fun y2 => ?_) rfl rfl (by omega) (by omega)) rfl rfl (by omega) (by omega)
              · rw [rLink_b k1 hv er k3 (Or.inl y)] at K
                exact c_err h3 hGt.1 rfl (fun m' a => K m' 0 (cR_f ff (cR_l a)))
              · rw [rLink_c k1 hv er k3 (by rintro (q | q) <;> omega)] at K
                refine k_join (show sX1 6 from a_6) h3.2.2.2.2.2.2 (show s_d b σ < 7 by omega) (show s_d b (s_n b n σ) < 7 by omega) (fun q => z (Or.inl q)) y2 (fun m4 a1 a2 => b_X5_readLink_92 ?_)
                refine k_stepP (by omega) hb hn (cP_G h3 a2 a1) hWt.1.1.2.1 (fun m5 h5 f5 => b_X5_readLink_96 ?_)
                exact K m5 1 (cR_r h5 (fRk_trans ff (fRk_trans (fRk_G a2) f5)))
              · rw [rLink_b k1 hv er k3 (Or.inr (by omega))] at K
                exact c_err h3 hGt.1 rfl (fun m' a => K m' 0 (cR_f ff (cR_l a)))
            · rw [rLink_a k1 hv er k3] at K
              exact ⟨fun y => absurd y (c_kn h3 hWt.1 (by decide) k3), fun _ => K m3 1 (cR_r h3 ff)⟩
      · rw [rLink_e k1 hv (rLnk_1 k2)] at K
        exact ⟨fun z => absurd z (c_kn h1 hW1 (by decide) k2), fun _ => c_err h1 hG.1 rfl (fun m' a => K m' 0 (cR_f f1 (cR_l a)))⟩
  · rw [rLink_1 k1] at K
    exact ⟨fun z => absurd z (c_kn h hW (by decide) k1), fun _ => c_err h hG.1 rfl (fun m' a => K m' 0 (cR_l a))⟩
end ZRe
