/-! the class Search: the way through the tree -/
def swb (G : Gr) (k : Nat) (c : Nat → Nat) (q d : Nat) (ms : Nat → Nat) (apb v : Nat) (x : Nat × SS) : Nat × SS := if c v + 1 = tg c (gn G) q then (if (cl (gn G) apb (S_g x.2) 7 x.1).testBit v = true then (x.1, ss_k x.2) else (x.1 ||| 2 ^ v, if cutc x.2 (msn G c q v d ms) (d + 1) = true then ss_c x.2 else sw G k (nx G c q v).1 (nx G c q v).2.1 (d + 1) (msn G c q v d ms) (apb ||| 2 ^ v) x.2)) else x
theorem sw_succ (G : Gr) (k : Nat) (c : Nat → Nat) (q d : Nat) (ms : Nat → Nat) (apb : Nat) (s : SS) : sw G (k + 1) c q d ms apb s = if tg c (gn G) q = 0 then sl (gn G) (mkl G c d ms) (ss_n s) else (it (swb G k c q d ms apb) (gn G) (0, ss_n s)).2 := rfl
theorem swb_y {G : Gr} {k : Nat} {c : Nat → Nat} {q d : Nat} {ms : Nat → Nat} {apb v : Nat} {x : Nat × SS} (h1 : c v + 1 = tg c (gn G) q) (h2 : (cl (gn G) apb (S_g x.2) 7 x.1).testBit v = true) : swb G k c q d ms apb v x = (x.1, ss_k x.2) := by unfold swb; rw [if_pos h1, if_pos h2]
theorem swb_c {G : Gr} {k : Nat} {c : Nat → Nat} {q d : Nat} {ms : Nat → Nat} {apb v : Nat} {x : Nat × SS} (h1 : c v + 1 = tg c (gn G) q) (h2 : ¬ (cl (gn G) apb (S_g x.2) 7 x.1).testBit v = true) (h3 : cutc x.2 (msn G c q v d ms) (d + 1) = true) : swb G k c q d ms apb v x = (x.1 ||| 2 ^ v, ss_c x.2) := by unfold swb; rw [if_pos h1, if_neg h2, if_pos h3]
theorem swb_r {G : Gr} {k : Nat} {c : Nat → Nat} {q d : Nat} {ms : Nat → Nat} {apb v : Nat} {x : Nat × SS} (h1 : c v + 1 = tg c (gn G) q) (h2 : ¬ (cl (gn G) apb (S_g x.2) 7 x.1).testBit v = true) (h3 : ¬ cutc x.2 (msn G c q v d ms) (d + 1) = true) : swb G k c q d ms apb v x = (x.1 ||| 2 ^ v, sw G k (nx G c q v).1 (nx G c q v).2.1 (d + 1) (msn G c q v d ms) (apb ||| 2 ^ v) x.2) := by unfold swb; rw [if_pos h1, if_neg h2, if_neg h3]
theorem swb_n {G : Gr} {k : Nat} {c : Nat → Nat} {q d : Nat} {ms : Nat → Nat} {apb v : Nat} {x : Nat × SS} (h1 : ¬ c v + 1 = tg c (gn G) q) : swb G k c q d ms apb v x = x := by unfold swb; rw [if_neg h1]
theorem swb_mono {G : Gr} (hG : gWF G) {k : Nat} {c : Nat → Nat} {q d : Nat} {ms : Nat → Nat} {apb : Nat} (hi : nod G c q d ms apb) (h : tg c (gn G) q ≠ 0) {v : Nat} (hv : v < gn G) (x : Nat × SS) : S_l x.2 ≤ S_l (swb G k c q d ms apb v x).2 := by
  by_cases h1 : c v + 1 = tg c (gn G) q
  · by_cases h2 : (cl (gn G) apb (S_g x.2) 7 x.1).testBit v = true
    · rw [swb_y h1 h2]; exact Nat.le_refl _
    · by_cases h3 : cutc x.2 (msn G c q v d ms) (d + 1) = true
      · rw [swb_c h1 h2 h3]; exact Nat.le_refl _
      · rw [swb_r h1 h2 h3]; exact sw_mono hG (nod_nx hG hi hv h h1)
  · rw [swb_n h1]; exact Nat.le_refl _
theorem it_mono {G : Gr} (hG : gWF G) {k : Nat} {c : Nat → Nat} {q d : Nat} {ms : Nat → Nat} {apb : Nat} (hi : nod G c q d ms apb) (h : tg c (gn G) q ≠ 0) (x : Nat × SS) : ∀ t v, v + t ≤ gn G → S_l (it (swb G k c q d ms apb) v x).2 ≤ S_l (it (swb G k c q d ms apb) (v + t) x).2 := by
  intro t
  induction t with
  | zero => intro v _; exact Nat.le_refl _
  | succ t ih =>
    intro v hv
    exact Nat.le_trans (ih v (by omega)) (swb_mono hG hi h (show v + t < gn G by omega) _)
def fK (o d : Nat) (m m' : zm) : Prop := (∀ a, (a < o ∨ o + 65 ≤ a ∨ (o + 1 ≤ a ∧ a < o + 17) ∨ (o + 25 ≤ a ∧ a < o + 30 + 5 * d)) → m'.1 a = m.1 a ∧ m'.2 a = m.2 a) ∧ (∀ i, i ≤ d → m'.1 (o + 18) i = m.1 (o + 18) i) ∧ m'.1 o 8 = m.1 o 8
theorem fK_refl (o d : Nat) (m : zm) : fK o d m m := ⟨fun _ _ => ⟨rfl, rfl⟩, fun _ _ => rfl, rfl⟩
theorem fK_trans {o d : Nat} {m m' m'' : zm} (h1 : fK o d m m') (h2 : fK o d m' m'') : fK o d m m'' := ⟨fun a h => ⟨(h2.1 a h).1.trans (h1.1 a h).1, (h2.1 a h).2.trans (h1.1 a h).2⟩, fun i h => (h2.2.1 i h).trans (h1.2.1 i h), h2.2.2.trans h1.2.2⟩
theorem fK_mono {o d d' : Nat} {m m' : zm} (h : fK o d' m m') (hd : d ≤ d') : fK o d m m' := ⟨fun a ha => h.1 a (by omega), fun i hi => h.2.1 i (by omega), h.2.2⟩
theorem fK_fz {o d lo hi : Nat} {m m' : zm} (h : fz lo hi m m') (h1 : o + 30 + 5 * d ≤ lo) (h2 : hi ≤ o + 65) : fK o d m m' := ⟨fun a ha => h a (by omega), fun i _ => fz_1 h (by omega) i, fz_1 h (by omega) 8⟩
theorem fK_wI {o d k : Nat} {v : Int32} {m : zm} (h : k ≠ 8) : fK o d m (wI m o k v) := ⟨fun a ha => ⟨funext fun j => rI_n (fun q => by omega), rfl⟩, fun i _ => rI_n (fun q => by omega), rI_n (fun q => h q.2.symm)⟩
theorem fK_mark {o d k : Nat} {v : Int32} {m : zm} (h : d < k) : fK o d m (wI m (o + 18) k v) := ⟨fun a ha => ⟨funext fun j => rI_n (fun q => by omega), rfl⟩, fun i hi => rI_n (fun q => by omega), rI_n (fun q => by omega)⟩
theorem fK_fR {o d : Nat} {m m' : zm} (hd : d ≤ 6) (h : fR o m m') : fK o d m m' := ⟨fun a ha => h.1 a (by omega) (by omega), fun i _ => congrFun (h.1 (o + 18) (by omega) (by omega)).1 i, h.2 8 (by decide) (by decide)⟩
theorem pG_fK {o d : Nat} {m m' : zm} {G : Gr} (h : pG m (o + 1) G) (f : fK o d m m') : pG m' (o + 1) G := by
  have q : ∀ a, o + 1 ≤ a → a < o + 17 → m'.1 a = m.1 a := fun a h1 h2 => (f.1 a (by omega)).1
  exact ⟨by rw [q _ (by omega) (by omega)]; exact h.1, fun v hv => by rw [q _ (by omega) (by omega)]; exact h.2.1 v hv, fun a b ha hb => by rw [q _ (by omega) (by omega)]; exact h.2.2.1 a b ha hb, fun k x hk hx => by rw [q _ (by omega) (by omega)]; exact h.2.2.2 k x hk hx⟩
theorem pC_fK {o d n q : Nat} {m m' : zm} {c : Nat → Nat} (h : pC m (o + 25 + 5 * d) n c q) (f : fK o d m m') : pC m' (o + 25 + 5 * d) n c q := by
  have r : ∀ a, o + 25 ≤ a → a < o + 30 + 5 * d → m'.1 a = m.1 a := fun a h1 h2 => (f.1 a (by omega)).1
  exact ⟨by rw [r _ (by omega) (by omega)]; exact h.1, fun j hj => by rw [r _ (by omega) (by omega)]; exact h.2 j hj⟩
theorem pSS_fz {o n lo hi : Nat} {m m' : zm} {s : SS} (h : pSS m o n s) (f : fz lo hi m m') (h1 : (o + 1 ≤ lo ∧ hi ≤ o + 21) ∨ (o + 25 ≤ lo ∧ hi ≤ o + 60) ∨ hi ≤ o ∨ o + 65 ≤ lo) : pSS m' o n s := by
  have q : ∀ a k, (a = o ∨ a = o + 60 ∨ (o + 61 ≤ a ∧ a < o + 65) ∨ (o + 21 ≤ a ∧ a < o + 25)) → m'.1 a k = m.1 a k := fun a k h => fz_1 f (by omega) k
  obtain ⟨a4, a5, a6, a7, a10, a9, ar, al⟩ := h
  refine ⟨by rw [q _ _ (by omega)]; exact a4, by rw [q _ _ (by omega)]; exact a5, by rw [q _ _ (by omega)]; exact a6, by rw [q _ _ (by omega)]; exact a7, by rw [q _ _ (by omega)]; exact a10, by rw [q _ _ (by omega)]; exact a9, fun i hi => by rw [q _ _ (by omega)]; exact ar i hi, fun z => ⟨pF_fz (al z).1 f (by omega), pF_fz (al z).2 f (by omega)⟩⟩
theorem sX6_c {o : Nat} (ho : sX6 o) {k : Nat} (hk : k < 7) : sX0 (o + 25 + 5 * k) := (sX6_e1 ho k hk).2
theorem cz_tg {c : Nat → Nat} {n q v : Nat} (h : tg c n q ≠ 0) (hc : c v + 1 = tg c n q) : 1 < cz c n (c v) := by
  have := tg_size h
  rw [← hc] at this
  simpa using this
theorem nod_cong {G : Gr} {c : Nat → Nat} {q d apb : Nat} {ms : Nat → Nat} (h : nod G c q d ms apb) : cwf (gn G) c q := h.1.1
theorem or_7 {a v : Nat} (ha : a < 128) (hv : v < 7) : a ||| 2 ^ v < 128 := Nat.or_lt_two_pow (n := 7) ha (Nat.pow_lt_pow_right (by decide) hv)
section ZCo
variable {g : zG} {gr : Bool}
theorem k_come6 {o : Nat} {G : Gr} (ho : sX6 o) (hG : gWF G) : ∀ (k e : Nat) (c : Nat → Nat) (q d : Nat) (ms : Nat → Nat) (apb : Nat) (s : SS) (m : zm) (Q : Option Value → zH → Prop), gn G ≤ k + d → k + 3 ≤ e → nod G c q d ms apb → apb < 128 → sft G s → sgo s → S_l (sw G k c q d ms apb s) ≤ 5040 → pG m (o + 1) G → pC m (o + 25 + 5 * d) (gn G) c q → (∀ i, i ≤ d → m.1 (o + 18) i = nI (ms i)) → pSS m o (gn G) s →
    (∀ m', pSS m' o (gn G) (sw G k c q d ms apb s) → fK o d m m' → Q none (mk m')) → Ok g gr e mX8_come 0 0 [.ref o, .int (nI d), .int (nI apb)] (mk m) Q := by
  have h7 := hG.2.1.2
  intro k
  induction k with
  | zero =>
    intro e c q d ms apb s m Q h1 h2 hi
    have := nod_d hG hi
    omega
  | succ k ih =>
    intro e c q d ms apb s m Q h1 h2 hi hap hsf hsg hb hp hC hms hss H
    obtain ⟨x, rfl⟩ : ∃ x, e = x + 4 := ⟨e - 4, by omega⟩
    have hd := nod_d hG hi
    have hcw := hi.1.1
    have sX0d := sX6_c ho (show d < 7 by omega)
    refine b_X8_come_X6_0 ho ?_
    intro m1 e1
    refine ⟨pk_in d 7 (by omega), ?_⟩
    rw [nI_clamp (show d < 2 ^ 31 by omega)]
    rw [hss.1, nI_1] at e1
    have f1 : fK o d m m1 := by rw [e1]; exact fK_wI (by decide)
    have hss1 : pSS m1 o (gn G) (ss_n s) := by
      obtain ⟨a4, a5, a6, a7, a10, a9, ar, al⟩ := hss
      rw [e1]
      exact ⟨rI_s, by rw [rI_n (by omega)]; exact a5, by rw [rI_n (by omega)]; exact a6, by rw [rI_n (by omega)]; exact a7, by rw [rI_n (by omega)]; exact a10, by rw [rI_n (by omega)]; exact a9, fun i hi => by rw [rI_n (by omega)]; exact ar i hi, fun z => ⟨pF_fz (al z).1 (fz_wI (lo := o) (hi := o + 1)) (by omega), pF_fz (al z).2 (fz_wI (lo := o) (hi := o + 1)) (by omega)⟩⟩
    have hC1 := pC_fK hC f1
    have hp1 := pG_fK hp f1
    refine k_target sX0d (by omega) h7 hC1 (by omega) ?_
    have htl := tgm_lt (c := c) (n := gn G) (q := q) h7
    have hsl : S_l s + 1 < 2 ^ 31 := by
      have := sw_mono hG (k := k + 1) (s := s) hi
      omega
    -- a leaf
    have leaf : tg c (gn G) q = 0 → ∀ m2, m2 = wI m1 o 5 ((m1.1 o 5) + (1 : Int32)) → vp_in (nI d) 7 ∧ Ok g gr (x + 3) mX2_write 0 0 [.ref (o + 17), .ref (o + 1), .ref (o + 25 + 5 * d), .int (nI d)] (mk m2) (fun r h2 => WP g gr (x + 4) mX8_come 0 0 60 [.ref o, .retAddr 0, .retAddr 0, .retAddr 0, .retAddr 0, .retAddr 0, .retAddr 0] (r.toList ++ []) h2 Q) := by
      intro h0 m2 e2
      rw [hss1.2.1, nI_1] at e2
      have f2 : fK o d m1 m2 := by rw [e2]; exact fK_wI (by decide)
      have hsr : pSR m2 o (gn G) (ss_n s) := by
        obtain ⟨a4, a5, a6, a7, a10, a9, ar, al⟩ := hss1
        rw [e2]
        exact ⟨by rw [rI_n (by omega)]; exact a4, rI_s, by rw [rI_n (by omega)]; exact a6, by rw [rI_n (by omega)]; exact a7, by rw [rI_n (by omega)]; exact a10, by rw [rI_n (by omega)]; exact a9, fun i hi => by rw [rI_n (by omega)]; exact ar i hi, fun z => ⟨pF_fz (al z).1 (fz_wI (lo := o) (hi := o + 1)) (by omega), pF_fz (al z).2 (fz_wI (lo := o) (hi := o + 1)) (by omega)⟩⟩
      have f12 := fK_trans f1 f2
      refine ⟨pk_in d 7 (by omega), k_write (sX6_17 ho) (sX6_s0 ho) sX0d (by omega) hG (pG_fK hp f12) (pC_fK hC f12) hcw h0 (by omega) (by omega) (fun i hi2 => by rw [f12.2.1 i hi2]; exact hms i hi2) (fun m3 w1 w2 => ?_)⟩
      have hm3 : ∀ i, i ≤ d → m3.1 (o + 18) i = m.1 (o + 18) i := fun i hi2 => by rw [hms i hi2]; exact w1.2.2.1 i hi2
      have f3 : fK o d m2 m3 := ⟨fun a ha => w2 a (by omega), fun i hi2 => by rw [hm3 i hi2, f12.2.1 i hi2], fz_1 w2 (by omega) 8⟩
      have hsr3 : pSR m3 o (gn G) (ss_n s) := by
        have q9 : ∀ a k, (a = o ∨ a = o + 60 ∨ (o + 61 ≤ a ∧ a < o + 65) ∨ (o + 21 ≤ a ∧ a < o + 25)) → m3.1 a k = m2.1 a k := fun a k h => fz_1 w2 (by omega) k
        obtain ⟨a4, a5, a6, a7, a10, a9, ar, al⟩ := hsr
        exact ⟨by rw [q9 _ _ (by omega)]; exact a4, by rw [q9 _ _ (by omega)]; exact a5, by rw [q9 _ _ (by omega)]; exact a6, by rw [q9 _ _ (by omega)]; exact a7, by rw [q9 _ _ (by omega)]; exact a10, by rw [q9 _ _ (by omega)]; exact a9, fun i hi => by rw [q9 _ _ (by omega)]; exact ar i hi, fun z => ⟨pF_fz (al z).1 w2 (by omega), pF_fz (al z).2 w2 (by omega)⟩⟩
      refine b_X8_come_X6_60 ho ?_
      have hb' : S_l (ss_n s) + 1 ≤ 5040 := by
        rw [sw_succ, if_pos h0, sl_l] at hb
        exact hb
      refine k_reach6 ho (by omega) h7 (by have := pG_fK hp (fK_trans f12 f3); exact this.1) hsr3 w1 (lmk_mkl hG hi h0) (lcd_cd hG.1 _ _ _) (vi_pe hcw h0).1 hsf hsg hb' (fun m4 r1 r2 => ?_)
      refine b_X8_come_X6_64 (H m4 ?_ (fK_trans (fK_trans f12 f3) (fK_fR hd.2.2 r2)))
      rw [sw_succ, if_pos h0]
      exact r1
    refine b_X8_come_X6_19 ho (pk_eq (tgm c (gn G) q) 0 (fun z => ?_) (fun z => ?_))
    · rw [nI_clamp (show d < 2 ^ 31 by omega)]
      exact leaf (tgm_0.mp z)
    · have h0 : tg c (gn G) q ≠ 0 := fun w => z (tgm_0.mpr w)
      have hqn : q < gn G := by
        rcases Nat.lt_or_ge q (gn G) with w | w
        · exact w
        · have : q = gn G := by omega
          rw [this] at hcw h0
          exact absurd (tg_full hcw) h0
      rw [nI_1]
      refine pk_lt (d + 1) 7 (fun _ => ⟨pk_in (d + 1) 7 (by omega), ?_⟩) (fun w => by omega)
      rw [nI_clamp (show d + 1 < 2 ^ 31 by omega)]
      have sX0y := sX6_c ho (show d + 1 < 7 by omega)
      rw [sw_succ, if_neg h0] at hb
      let B := swb G k c q d ms apb
      refine up_to (n := gn G) (P := fun v => ∀ m', pSS m' o (gn G) (it B v (0, ss_n s)).2 → (it B v (0, ss_n s)).1 < 128 → sft G (it B v (0, ss_n s)).2 → sgo (it B v (0, ss_n s)).2 → fK o d m m' → WP g gr (x + 4) mX8_come 0 0 81 [.ref o, .int (nI d), .int (nI apb), .int (nI (tgm c (gn G) q)), .ref (o + 25 + 5 * (d + 1)), .int (nI (it B v (0, ss_n s)).1), .int (nI v)] [] (mk m') Q) ?_ ?_ 0 (Nat.zero_le _) m1 hss1 (by show (0 : Nat) < 128; decide) hsf hsg f1
      · intro m' a1 a2 a3 a4 a5
        have hp' := pG_fK hp a5
        refine b_X8_come_X6_81 ho sX0y (pk_le (gn G) (gn G) (fun _ => H m' ?_ a5) (fun w => absurd w (Nat.lt_irrefl _)) hp'.1)
        rw [sw_succ, if_neg h0]
        exact a1
      · intro v hv ihv m' a1 a2 a3 a4 a5
        have hp' := pG_fK hp a5
        have hC' := pC_fK hC a5
        have ev : it B (v + 1) (0, ss_n s) = B v (it B v (0, ss_n s)) := rfl
        have hbv : S_l (it B (v + 1) (0, ss_n s)).2 ≤ 5040 := by
          have := it_mono hG (k := k) hi h0 (0, ss_n s) (gn G - (v + 1)) (v + 1) (by omega)
          rw [show v + 1 + (gn G - (v + 1)) = gn G by omega] at this
          exact Nat.le_trans this hb
        rw [ev] at ihv hbv
        generalize hx : it B v (0, ss_n s) = y at *
        have hglen : (S_g y.2).length ≤ 5040 := by
          have m1 := swb_mono hG (k := k) hi h0 hv y
          have m2 : S_l (swb G k c q d ms apb v y).2 ≤ 5040 := hbv
          by_cases w : S_l y.2 = 0
          · rw [a4.1 w]; exact Nat.zero_le _
          · have := a4.2 w; omega
        refine b_X8_come_X6_81 ho sX0y (pk_le (gn G) v (fun w => by omega) (fun _ => ?_) hp'.1)
        rw [i_in (by omega) (by omega), tgm_bit hv, nI_1]
        refine ⟨fun hin => ?_, fun hin => ?_⟩
        · have hcv := hin.2
          refine k_skips ho (by omega) h7 hp'.1 a1.2.2.2.2.2.1 a1.2.2.2.2.2.2.1 hglen a3.2 (by omega) (by omega) (by omega) (fun hs1 => ?_) (fun hs0 => ?_)
          · refine b_X8_come_X6_114 ho sX0y ⟨fun w => absurd w (by decide), fun _ => ?_⟩
            have eB : B v y = (y.1, ss_k y.2) := swb_y hcv hs1
            rw [eB] at ihv
            rw [a1.2.2.2.1, nI_1, nI_1]
            refine ihv _ ?_ a2 a3 a4 (fK_trans a5 (fK_wI (by decide)))
            obtain ⟨b4, b5, b6, b7, b10, b9, br, bl⟩ := a1
            exact ⟨by rw [rI_n (by omega)]; exact b4, by rw [rI_n (by omega)]; exact b5, by rw [rI_n (by omega)]; exact b6, rI_s, by rw [rI_n (by omega)]; exact b10, by rw [rI_n (by omega)]; exact b9, fun i hi => by rw [rI_n (by omega)]; exact br i hi, fun z => ⟨pF_fz (bl z).1 (fz_wI (lo := o) (hi := o + 1)) (by omega), pF_fz (bl z).2 (fz_wI (lo := o) (hi := o + 1)) (by omega)⟩⟩
          · have hs0' : ¬ (cl (gn G) apb (S_g y.2) 7 y.1).testBit v = true := by rw [hs0]; decide
            have hcz := cz_tg h0 hcv
            refine b_X8_come_X6_114 ho sX0y ⟨fun _ => ⟨pk_in d 7 (by omega), ?_⟩, fun w => absurd rfl w⟩
            rw [nI_clamp (show d < 2 ^ 31 by omega), i_sh1 (by omega), fa_or]
            intro m2 e2 m3 e3 m4 e4
            have f2 : fz (o + 25 + 5 * (d + 1)) (o + 30 + 5 * (d + 1)) m' m2 := fz_eI e2
            have f3 : fz (o + 25 + 5 * (d + 1)) (o + 30 + 5 * (d + 1)) m2 m3 := fz_eI e3
            have f4 : fz (o + 25 + 5 * (d + 1)) (o + 30 + 5 * (d + 1)) m3 m4 := by rw [e4]; exact fz_wC
            have f24 := fz_trans f2 (fz_trans f3 f4)
            have hC4 : pC m4 (o + 25 + 5 * (d + 1)) (gn G) c q := ⟨by rw [e4, wC_1, if_neg (by omega), e3, rI_n (by omega), e2, rI_s]; exact hC'.1, fun j hj => by rw [e4, wC_1, if_pos ⟨rfl, by omega⟩, e3, rI_n (by omega), e2, rI_n (by omega)]; exact hC'.2 j hj⟩
            refine k_putAhead sX0y (by omega) h7 hC4 hcw hv (fun m5 g1 g2 g3 => ?_)
            have hpa : pa c (gn G) v = ap c v := by unfold pa; rw [if_pos hcz]
            have hpq : paq c (gn G) v q = q + 1 := by unfold paq; rw [if_pos hcz]
            rw [hpa, hpq] at g1
            have f25 : fz (o + 25 + 5 * (d + 1)) (o + 30 + 5 * (d + 1)) m' m5 := fz_trans f24 (fz_mono g3)
            refine b_X8_come_X6_157 ho sX0y ?_
            have hp5 := pG_fz hp' f25 (by omega)
            refine k_refine sX0y (sX6_s0 ho) (by omega) hG hp5 (by omega) (ap_cwf hcw hv hcz) (by omega) g1 (fun m6 r1 r2 r3 => ?_)
            have f26 : fz (o + 25 + 5 * (d + 1)) (o + 30 + 5 * (d + 1)) m' m6 := fz_trans f25 (fz_mono r3)
            obtain ⟨n1, n2, n3, n4, n5⟩ := nx_all hG hcw hv h0 hcv
            refine b_X8_come_X6_166 ho sX0y ?_
            refine k_mark sX0y (by omega) h7 r1 (by show (nx G c q v).2.1 ≤ 7; omega) r2 ?_
            refine b_X8_come_X6_181 ho sX0y (sX2_s2 (sX6_17 ho)) ⟨by rw [nI_1]; exact pk_in (d + 1) 7 (by omega), ?_⟩
            rw [nI_1, nI_clamp (show d + 1 < 2 ^ 31 by omega)]
            intro m7 e7
            have hnod := nod_nx hG hi hv h0 hcv
            have hm7 : ∀ i, i ≤ d + 1 → m7.1 (o + 18) i = nI (msn G c q v d ms i) := fun i hi2 => by
              rw [e7]
              unfold msn
              by_cases w : i = d + 1
              · subst w; rw [rI_s, if_pos rfl]; rfl
              · rw [rI_n (fun z => w z.2), if_neg w, fz_1 f26 (by omega), a5.2.1 i (by omega)]
                exact hms i (by omega)
            have fK7 : fK o d m' m7 := fK_trans (fK_fz f26 (by omega) (by omega)) (by rw [e7]; exact fK_mark (by omega))
            have hss7 : pSS m7 o (gn G) y.2 := pSS_fz (pSS_fz a1 f26 (by omega)) (show fz (o + 17) (o + 21) m6 m7 by rw [e7]; exact fz_wI) (by omega)
            have hsl7 : S_l y.2 ≤ 5040 := by
              have m1 := swb_mono hG (k := k) hi h0 hv y
              have m2 : S_l (swb G k c q d ms apb v y).2 ≤ 5040 := hbv
              omega
            refine k_cuts ho h7 hss7 (by omega) hm7 hnod.1.2.2.1 hnod.2.1 (fun w => (a3.1 w).2.1) hsl7 (fun hct => ?_) (fun hct => ?_)
            · refine b_X8_come_X6_189 ho sX0y ⟨fun w => absurd w (by decide), fun _ => ?_⟩
              have eB : B v y = (y.1 ||| 2 ^ v, ss_c y.2) := swb_c hcv hs0' hct
              rw [eB] at ihv
              rw [hss7.2.2.1, nI_1, nI_1]
              refine ihv _ ?_ (or_7 a2 (by omega)) a3 a4 (fK_trans a5 (fK_trans fK7 (fK_wI (by decide))))
              obtain ⟨b4, b5, b6, b7, b10, b9, br, bl⟩ := hss7
              exact ⟨by rw [rI_n (by omega)]; exact b4, by rw [rI_n (by omega)]; exact b5, rI_s, by rw [rI_n (by omega)]; exact b7, by rw [rI_n (by omega)]; exact b10, by rw [rI_n (by omega)]; exact b9, fun i hi => by rw [rI_n (by omega)]; exact br i hi, fun z => ⟨pF_fz (bl z).1 (fz_wI (lo := o) (hi := o + 1)) (by omega), pF_fz (bl z).2 (fz_wI (lo := o) (hi := o + 1)) (by omega)⟩⟩
            · have hct' : ¬ cutc y.2 (msn G c q v d ms) (d + 1) = true := by rw [hct]; decide
              refine b_X8_come_X6_189 ho sX0y ⟨fun _ => ?_, fun w => absurd rfl w⟩
              have eB : B v y = (y.1 ||| 2 ^ v, sw G k (nx G c q v).1 (nx G c q v).2.1 (d + 1) (msn G c q v d ms) (apb ||| 2 ^ v) y.2) := swb_r hcv hs0' hct'
              rw [eB] at ihv hbv
              rw [nI_1, i_sh1 (by omega), fa_or]
              have r1' : pC m7 (o + 25 + 5 * (d + 1)) (gn G) (nx G c q v).1 (nx G c q v).2.1 := pC_fz r1 (show fz (o + 17) (o + 21) m6 m7 by rw [e7]; exact fz_wI) (by omega)
              refine ih (x + 3) _ _ (d + 1) _ (apb ||| 2 ^ v) y.2 m7 _ (by omega) (by omega) hnod (or_7 hap (by omega)) a3 a4 hbv (pG_fK hp' fK7) r1' hm7 hss7 (fun m8 c1 c2 => ?_)
              refine b_X8_come_X6_218 ho sX0y ?_
              rw [nI_1]
              exact ihv m8 c1 (or_7 a2 (by omega)) (sw_sft hG hnod a3) (sw_sgo hG hnod a4) (fK_trans a5 (fK_trans fK7 (fK_mono c2 (by omega))))
        · have eB : B v y = y := swb_n (fun w => hin ⟨h0, w⟩)
          rw [eB] at ihv
          exact ihv m' a1 a2 a3 a4 a5
end ZCo
