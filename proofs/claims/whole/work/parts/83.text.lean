/-! text -/
def Rd (s : Sg) (F wv t : Int32) : Sg := (y_W s, y_P s, y_I s, y_K s, [], F, wv, t)
theorem sOK_Rd {s : Sg} (h : sOK s) (F wv t : Int32) : sOK (Rd s F wv t) := ⟨h.1, h.2.1, h.2.2.1, h.2.2.2.1, by show (0 : Nat) ≤ 400; decide, fun b hb => absurd hb (List.not_mem_nil)⟩
theorem CR_Rd {s : Sg} {m m' : zm} {F wv t : Int32} (h : CR s m) (f : ∀ a, a ≠ 1 → (a < 5 ∨ 21 ≤ a) → m'.1 a = m.1 a ∧ m'.2 a = m.2 a) (h0 : m'.1 5 0 = 0) (h1 : m'.1 5 1 = F) (hR : ∃ R, gOK R ∧ pG m' 6 R) (h4 : t = 4 → m'.1 5 2 = wv) (h5 : t ≠ 4 → wv = -1) (ht : m'.1 1 13 = t) : CR (Rd s F wv t) m' := by
  obtain ⟨⟨a1, ⟨a2, a, a3, a4, a5⟩, a6, ⟨a7, a8, R, a9, a10⟩, a11, a12, a13, a14⟩, cs⟩ := h
  have q : ∀ b k, b ≠ 1 → (b < 5 ∨ 21 ≤ b) → m'.1 b k = m.1 b k := fun b k x y => congrFun (f b x y).1 k
  exact ⟨⟨fun w hw => pG_eq (a1 w hw) fun b x1 x2 => (f b (by omega) (by omega)).1, ⟨by rw [q 22 _ (by decide) (by decide)]; exact a2, a, a3, by rw [q 22 _ (by decide) (by decide)]; exact a4, fun i p hp => ⟨by rw [q 23 _ (by decide) (by decide)]; exact (a5 i p hp).1, pG_eq (a5 i p hp).2 fun b x1 x2 => (f b (by omega) (by omega)).1⟩⟩, fun i hi => ⟨by rw [q 146 _ (by decide) (by decide)]; exact (a6 i hi).1, fun hk w hw => pG_eq ((a6 i hi).2 hk w hw) fun b x1 x2 => (f b (by omega) (by omega)).1⟩, ⟨h0, fun i hi => absurd hi (Nat.not_lt_zero _), hR⟩, h1, h4, h5, ht⟩, CS_eq cs fun b hb => f b (by omega) (by omega)⟩
theorem MR_Rd {s : Sg} {m m' : zm} {F wv t : Int32} (h : MR s m) (q1 : m'.1 811 = m.1 811) (q2 : m'.1 812 = m.1 812) (q3 : m'.1 813 = m.1 813) (q4 : m'.1 814 = m.1 814) (q6 : m'.1 810 6 = m.1 810 6) (q10 : m'.1 810 10 = 0) (p1 : m'.1 810 3 = F) (p2 : m'.1 810 2 = wv) (p3 : m'.1 810 1 = t) : MR (Rd s F wv t) m' := by
  obtain ⟨b1, ⟨b2, b3⟩, b4, -, -, -, -⟩ := h
  exact ⟨fun w hw => pR_eq (b1 w hw) q1, ⟨by rw [q6]; exact b2, fun i hi w hw => pR_eq (b3 i hi w hw) q2⟩, fun i hi => ⟨by rw [q4]; exact (b4 i hi).1, fun hk w hw => pR_eq ((b4 i hi).2 hk w hw) q3⟩, ⟨q10, fun i hi => absurd hi (Nat.not_lt_zero _)⟩, p1, p2, p3⟩
theorem c_keep2 {g : zG} {gr : Bool} {e : Nat} {Q : Option Value → zH → Prop} {m : zm} {s : Sg} {w : Nat} (he : 3 ≤ e) (hs : sOK s) (hw : w < 3) (hc : CR s m) (K : ∀ m', CR (ks s w) m' → fC m m' → (∀ x, x < 22 → m'.1 x = m.1 x) → Q none (mk m')) : Ok g gr e mX4_keep 0 0 [.ref 22, .int (nI w), .ref (272 + 140 * w)] (mk m) Q := by
  obtain ⟨d, rfl⟩ := dn he
  obtain ⟨⟨a1, ⟨a2, a, a3, a4, a5⟩, a6, a7, a8, a9, a10, a11⟩, b1⟩ := hc
  have hP := hs.2.1
  refine b_X4_keep_0 (s272 hw) ?_
  rw [a4]
  refine ⟨pk_in a 8 a3, ?_⟩
  rw [cw (show a < 2 ^ 31 by omega)]
  intro m1 e1
  have f1 : fz 23 24 m m1 := by rw [e1]; exact fz_wI
  rw [fz_1 f1 (by omega), a4]
  refine ⟨pk_in a 8 a3, ?_⟩
  rw [cw (show a < 2 ^ 31 by omega)]
  refine k_take (e_24 a a3).2 (s272 hw) (by omega) (by omega) (pG_fz (a1 w hw) f1 (by omega)) (fun m2 c1 c2 => ?_)
  refine b_X4_keep_23 ?_
  have c22 : ∀ k, m2.1 22 k = m.1 22 k := fun k => by rw [fz_1 c2 (by omega), fz_1 f1 (by omega)]
  intro m3 e3
  rw [c22, a4, i_ring a a3] at e3
  have c3 : m3.1 22 0 = nI (y_P s).length := by rw [e3, rI_n (by omega), c22]; exact a2
  rw [c3, i_cnt _ hP]
  -- what has not changed
  have q : ∀ x k, x ≠ 22 → x ≠ 23 → ¬ (25 + 15 * a ≤ x ∧ x < 40 + 15 * a) → (wI m3 22 0 (nI (min 8 ((y_P s).length + 1)))).1 x k = m.1 x k := fun x k h1 h2 h3 => by
    rw [rI_n (fun y => h1 y.1), e3, rI_n (fun y => h1 y.1), fz_1 c2 (by omega), fz_1 f1 (by omega)]
  have qf : ∀ x, x ≠ 22 → x ≠ 23 → ¬ (25 + 15 * a ≤ x ∧ x < 40 + 15 * a) → (wI m3 22 0 (nI (min 8 ((y_P s).length + 1)))).1 x = m.1 x := fun x h1 h2 h3 => funext fun k => q x k h1 h2 h3
  have qL : ∀ x, ¬ (25 + 15 * a ≤ x ∧ x < 40 + 15 * a) → x ≠ 23 → (wI m3 22 0 (nI (min 8 ((y_P s).length + 1)))).2 x = m.2 x := fun x h1 h2 => by
    rw [wI_2, e3, wI_2, (c2 x (by omega)).2, (f1 x (by omega)).2]
  have g2 : pG (wI m3 22 0 (nI (min 8 ((y_P s).length + 1)))) (25 + 15 * a) (y_W s w) := pG_eq c1 fun x h1 h2 => funext fun k => by rw [rI_n (by omega), e3, rI_n (by omega)]
  refine K _ ⟨⟨fun x hx => pG_eq (a1 x hx) fun y h1 h2 => qf y (by omega) (by omega) (by omega), ⟨?_, (a + 1) % 8, Nat.mod_lt _ (by decide), ?_, fun i p hp => ?_⟩, fun i hi => ⟨by rw [q _ _ (by omega) (by omega) (by omega)]; exact (a6 i hi).1, fun hk x hx => pG_eq ((a6 i hi).2 hk x hx) fun y h1 h2 => qf y (by omega) (by omega) (by omega)⟩, ⟨by rw [q _ _ (by omega) (by omega) (by omega)]; exact a7.1, rowL_cong a7.2.1 (qf _ (by omega) (by omega) (by omega)), ?_⟩, by rw [q _ _ (by omega) (by omega) (by omega)]; exact a8, fun z => by rw [q _ _ (by omega) (by omega) (by omega)]; exact a9 z, a10, by rw [q _ _ (by omega) (by omega) (by omega)]; exact a11⟩, CS_eq b1 fun x hx => ⟨qf x (by omega) (by omega) (by omega), qL x (by omega) (by omega)⟩⟩ (fun x hx => ⟨qf x (by omega) (by omega) (by omega), qL x (by omega) (by omega)⟩) (fun x hx => qf x (by omega) (by omega) (by omega))
  · show _ = nI (List.take 8 ((w, y_W s w) :: y_P s)).length
    rw [rI_s, List.length_take]; rfl
  · rw [rI_n (by omega), e3, rI_s]
  · have hp : (List.take 8 ((w, y_W s w) :: y_P s))[i]? = some p := hp
    have hi8 : i < 8 := by
      rcases Nat.lt_or_ge i 8 with z | z
      · exact z
      · rw [List.getElem?_eq_none (by rw [List.length_take]; omega)] at hp; cases hp
    rw [List.getElem?_take_of_lt hi8] at hp
    cases i with
    | zero =>
      have : p = (w, y_W s w) := (Option.some.inj hp).symm
      subst this
      have ea : ((a + 1) % 8 + 7 - 0) % 8 = a := by omega
      rw [ea]
      refine ⟨?_, g2⟩
      rw [rI_n (by omega), e3, rI_n (by omega), fz_1 c2 (by omega), e1, rI_s]
    | succ i =>
      have hp2 : (y_P s)[i]? = some p := hp
      obtain ⟨u1, u2⟩ := a5 i p hp2
      have ea : ((a + 1) % 8 + 7 - (i + 1)) % 8 = (a + 7 - i) % 8 := by omega
      have en : (a + 7 - i) % 8 ≠ a := by omega
      rw [ea]
      refine ⟨?_, pG_eq u2 fun y h1 h2 => qf y (by omega) (by omega) (by omega)⟩
      rw [rI_n (by omega), e3, rI_n (by omega), fz_1 c2 (by omega), e1, rI_n (fun y => en y.2)]
      exact u1
  · obtain ⟨R, r1, r2⟩ := a7.2.2
    exact ⟨R, r1, pG_eq r2 fun y h1 h2 => qf y (by omega) (by omega) (by omega)⟩
section ZAc
theorem x_text {s : Sg} (hs : sOK s) (l1 l2 : Int32) : BX s mX9_text mX10_text [.int l1, .int l2] := by
  rcases i_case l1 3 (by decide) with h | ⟨w, hw, rfl⟩
  · refine ⟨qs s 1, -1, sOK_qs hs 1, fun g gr e m Q he hc K => ?_, fun g gr e m Q he hm K => ?_⟩
    · obtain ⟨d, rfl⟩ := dn (show 11 ≤ e by omega)
      exact b_X9_text_0 (rg_n h (K _ (CR_t hc) fC_t))
    · obtain ⟨d, rfl⟩ := dn (show 7 ≤ e by omega)
      refine b_X10_text_0 ?_
      rintro m1 rfl
      exact ite_n (isG_n h) (m_no hm K)
  · have hT4 := hs.2.2.2.2.1
    rcases i_case l2 ((y_T s).length + 1) (by omega) with h2 | ⟨n, hn, rfl⟩
    · refine ⟨qs s 2, -1, sOK_qs hs 2, fun g gr e m Q he hc K => ?_, fun g gr e m Q he hm K => ?_⟩
      · obtain ⟨d, rfl⟩ := dn (show 11 ≤ e by omega)
        refine b_X9_text_0 (rg_y hw ⟨pk_in w 3 hw, ?_⟩)
        rw [hc.1.2.2.2.1.1]
        refine ⟨fun _ => K _ (CR_t hc) fC_t, fun z => ⟨fun y => ?_, fun _ => K _ (CR_t hc) fC_t⟩⟩
        exact absurd y (by
          rcases h2 with q | ⟨q, r⟩
          · exact absurd q z
          · obtain ⟨k, hk, rfl⟩ := i_neg q
            rcases Nat.lt_or_ge (y_T s).length k with x | x
            · exact nI_ge x hk
            · exact absurd r (nI_ge (by omega) (by omega)))
      · obtain ⟨d, rfl⟩ := dn (show 7 ≤ e by omega)
        have hb := MR_b hm
        refine b_X10_text_0 ?_
        rintro m1 rfl
        refine ite_y (isG_y hw) ⟨MR_1 hb, ?_⟩
        rw [hb.2.2.2.1.1]
        exact ite_n (in_n (n := (y_T s).length) (by omega) h2) (m_no hm K).2
    · have hn4 : n ≤ 400 := by omega
      have hnT : n ≤ (y_T s).length := by omega
      obtain ⟨b, eb⟩ : ∃ b : Nat → Nat, b = fun i => (y_T s).getD i 0 := ⟨_, rfl⟩
      have hb : ∀ i, b i < 256 := fun i => by
        rw [eb]
        show (y_T s).getD i 0 < 256
        rcases Nat.lt_or_ge i (y_T s).length with z | z
        · rw [List.getD_eq_getElem?_getD, List.getElem?_eq_getElem z]
          exact hs.2.2.2.2.2 _ (List.getElem_mem z)
        · rw [List.getD_eq_getElem?_getD, List.getElem?_eq_none z]; decide
      have cls : ∀ (g : zG) (gr : Bool) (d : Nat) (m : zm) (Q : Option Value → zH → Prop), CR s m → (∀ m', (∀ f p, rAll b n = .inl (f, p) → m'.1 5 1 = nI f ∧ m'.1 5 2 = nI p ∧ ∃ R, gOK R ∧ pG m' 6 R) → (∀ τ, rAll b n = .inr τ → m'.1 5 1 = 0 ∧ pG m' 6 (s_G τ)) → m'.1 5 0 = 0 → fz 5 21 m m' → WP g gr (d + 11) mX9_text 0 0 45 [.ref 1, .int (nI w), .retAddr 0, .ref (272 + 140 * w)] [] (mk m') Q) → Ok g gr (d + 11) mX9_text 0 0 [.ref 1, .int (nI w), .int (nI n)] (mk m) Q := by
        intro g gr d m Q hc K
        obtain ⟨h0, hr, R, hR, hp⟩ := hc.1.2.2.2.1
        refine b_X9_text_0 (rg_y hw ⟨pk_in w 3 hw, ⟨fun z => absurd z (i_nn (by omega)), fun _ => ?_⟩⟩)
        rw [h0, cw (show w < 2 ^ 31 by omega)]
        refine pk_le n (y_T s).length (fun _ => ?_) (fun z => by omega)
        exact k_read (by omega) hb hn4 hR hp (fun i hi => by rw [hr i (by omega), eb]) K
      have mdl : ∀ (g : zG) (gr : Bool) (d : Nat) (m : zm) (Q : Option Value → zH → Prop), MR s m → (∀ m', dA (wI (wBegins m) 810 10 0) m' b n (rAll b n) → WP g gr (d + 7) mX10_text 0 0 61 [.ref 810, .int (nI w), .retAddr 0, .retAddr 0] [] (mk m') Q) → Ok g gr (d + 7) mX10_text 0 0 [.ref 810, .int (nI w), .int (nI n)] (mk m) Q := by
        intro g gr d m Q hm K
        have hb2 := MR_b hm
        refine b_X10_text_0 ?_
        rintro m1 rfl
        refine ite_y (isG_y hw) ⟨MR_1 hb2, ?_⟩
        rw [hb2.2.2.2.1.1]
        refine ite_y (in_y hnT (by show (y_T s).length < 2 ^ 31; omega)) ?_
        rintro m2 rfl
        exact d_reads (by omega) hb hn4 (fun i hi => by
          rw [rI_n (by omega)]
          have := hb2.2.2.2.1.2 i (by show i < (y_T s).length; omega)
          rw [this, eb]; rfl) K
      cases hA : rAll b n with
      | inl x =>
        obtain ⟨f, p⟩ := x
        have hf := rAll_f (f, p) hA
        have hf1 : 1 ≤ f := hf.1
        have hf3 : f ≤ 3 := hf.2
        refine ⟨Rd s (nI f) (nI p) 4, -1, sOK_Rd hs _ _ _, fun g gr e m Q he hc K => ?_, fun g gr e m Q he hm K => ?_⟩
        · obtain ⟨d, rfl⟩ := dn (show 11 ≤ e by omega)
          refine cls g gr d m Q hc (fun m1 k1 _ k3 k4 => ?_)
          obtain ⟨c1, c2, R, hR, hp⟩ := k1 f p hA
          refine b_X9_text_45 (s272 hw) ⟨fun z => absurd ((nI_eq (a := f) (b := 0) (by omega) (by decide)).mp (c1.symm.trans z)) (by omega), fun _ => ?_⟩
          refine K _ (CR_Rd hc (fun a x1 x2 => ⟨funext fun k => (rI_n (by omega)).trans (congrFun (k4 a (by omega)).1 k), (k4 a (by omega)).2⟩) ((rI_n (by decide)).trans k3) ((rI_n (by decide)).trans c1) ⟨R, hR, pG_eq hp fun a x1 x2 => funext fun k => rI_n (by omega)⟩ (fun _ => (rI_n (by decide)).trans c2) (fun z => absurd rfl z) rI_s) ?_
          exact fC_trans (fC_fz k4 (by decide)) fC_t
        · obtain ⟨d, rfl⟩ := dn (show 7 ≤ e by omega)
          have hb2 := MR_b hm
          refine mdl g gr d m Q hm (fun m1 hd => ?_)
          obtain ⟨c1, c2, c3, c4⟩ := hd.1 f p hA
          have g0 : fM [10] [] (wBegins m) (wI (wBegins m) 810 10 0) := fM_f
          have e1 : m1.1 810 1 = 0 := by rw [fM_2 c4 (k := 1), fM_2 g0 (k := 1)]; exact MR_1 hb2
          have e6 : m1.1 810 6 = (wBegins m).1 810 6 := by rw [fM_2 c4 (k := 6), fM_2 g0 (k := 6)]
          have e10 : m1.1 810 10 = 0 := by rw [fM_2 c4 (k := 10)]; exact rI_s
          have rr : ∀ a, 811 ≤ a → a ≠ 816 → m1.1 a = (wBegins m).1 a := fun a x y => by rw [c4.1 a (by omega) (by simpa using y), g0.1 a (by omega) (by simp)]
          refine b_X10_text_61 ?_
          rintro m2 rfl
          refine ⟨fun z => absurd ((rI_n (by decide)).symm.trans z) c2, fun _ => ⟨(rI_n (by decide)).trans e1, ?_⟩⟩
          rintro m3 rfl
          refine K _ (MR_Rd (s := qs s 0) hb2 ?_ ?_ ?_ ?_ ?_ ?_ ?_ ?_ ?_) ?_
          · exact funext fun k => (rI_n (by omega)).trans ((rI_n (by omega)).trans ((rI_n (by omega)).trans (congrFun (rr 811 (by decide) (by decide)) k)))
          · exact funext fun k => (rI_n (by omega)).trans ((rI_n (by omega)).trans ((rI_n (by omega)).trans (congrFun (rr 812 (by decide) (by decide)) k)))
          · exact funext fun k => (rI_n (by omega)).trans ((rI_n (by omega)).trans ((rI_n (by omega)).trans (congrFun (rr 813 (by decide) (by decide)) k)))
          · exact funext fun k => (rI_n (by omega)).trans ((rI_n (by omega)).trans ((rI_n (by omega)).trans (congrFun (rr 814 (by decide) (by decide)) k)))
          · rw [rI_n (by decide), rI_n (by decide), rI_n (by decide)]; exact e6
          · rw [rI_n (by decide), rI_n (by decide), rI_n (by decide)]; exact e10
          · rw [rI_n (by decide), rI_n (by decide), rI_s]; exact c1
          · rw [rI_s, rI_n (by decide), rI_n (by decide)]; exact c3
          · rw [rI_n (by decide), rI_s]
          · exact fX_trans fX_b (fX_trans (fX_fM g0) (fX_trans (fX_fM c4) (fX_trans fX_w (fX_trans fX_w fX_w))))
      | inr τ =>
        have hG := (rAll_W τ hA).2.1
        have h7 := hG.2.1.2
        refine ⟨qs (gs (ks (Rd s 0 (-1) 0) w) w (s_G τ)) 0, nI (gn (s_G τ)), sOK_qs (sOK_gs (sOK_ks (sOK_Rd hs _ _ _) hw) hG) 0, fun g gr e m Q he hc K => ?_, fun g gr e m Q he hm K => ?_⟩
        · obtain ⟨d, rfl⟩ := dn (show 11 ≤ e by omega)
          refine cls g gr d m Q hc (fun m1 _ k2 k3 k4 => ?_)
          obtain ⟨c1, c2⟩ := k2 τ hA
          have h1 : CR (Rd s 0 (if y_t s = 4 then m1.1 5 2 else -1) (y_t s)) m1 := CR_Rd hc (fun a _ x2 => k4 a x2) k3 c1 ⟨_, hG.1, c2⟩ (fun z => by rw [if_pos z]) (fun z => if_neg z) (by rw [(k4 1 (by decide)).1]; exact hc.1.2.2.2.2.2.2.2)
          refine b_X9_text_45 (s272 hw) ⟨fun _ => ?_, fun z => absurd c1 z⟩
          refine c_keep2 (w := w) (by omega) (sOK_Rd hs _ _ _) hw h1 (fun m2 a1 a2 a3 => b_X9_text_70 (s272 hw) ?_)
          have p2 : pG m2 6 (s_G τ) := pG_eq c2 fun a x1 x2 => a3 a (by omega)
          refine k_take (s272 hw) (show sX1 6 from a_6) (by omega) (by omega) p2 (fun m3 d1 d2 => b_X9_text_81 (s272 hw) ?_)
          rw [d1.1]
          have h9 := CR_t (t := 0) (CR_g hw a1 d1 (by rw [show 287 + 140 * w = 272 + 140 * w + 15 by omega]; exact d2))
          exact K _ h9 (fC_trans (fC_fz k4 (by decide)) (fC_trans a2 (fC_trans (fC_fz d2 (by omega)) fC_t)))
        · obtain ⟨d, rfl⟩ := dn (show 7 ≤ e by omega)
          have hb2 := MR_b hm
          refine mdl g gr d m Q hm (fun m1 hd => ?_)
          obtain ⟨c1, c4⟩ := hd.2 τ hA
          have g0 : fM [10] [] (wBegins m) (wI (wBegins m) 810 10 0) := fM_f
          have e1 : m1.1 810 1 = 0 := by rw [fM_2 c4 (k := 1), fM_2 g0 (k := 1)]; exact MR_1 hb2
          have e2 : m1.1 810 2 = -1 := by rw [fM_2 c4 (k := 2), fM_2 g0 (k := 2)]; exact hb2.2.2.2.2.2.1
          have e6 : m1.1 810 6 = (wBegins m).1 810 6 := by rw [fM_2 c4 (k := 6), fM_2 g0 (k := 6)]
          have e10 : m1.1 810 10 = 0 := by rw [fM_2 c4 (k := 10)]; exact rI_s
          have rr : ∀ a, 811 ≤ a → a ≠ 816 → m1.1 a = (wBegins m).1 a := fun a x y => by rw [c4.1 a (by omega) (by simpa using y), g0.1 a (by omega) (by simp)]
          refine b_X10_text_61 ?_
          rintro m2 rfl
          refine ite_y ((rI_n (by decide)).trans c1.2.2.2.1) ⟨(rI_n (by decide)).trans e1, ?_⟩
          have h2 : MR (Rd s 0 (-1) 0) (wI m1 810 3 (m1.1 810 17)) := by
            refine MR_Rd (s := qs s 0) hb2 ?_ ?_ ?_ ?_ ?_ ?_ ?_ ?_ ?_
            · exact funext fun k => (rI_n (by omega)).trans (congrFun (rr 811 (by decide) (by decide)) k)
            · exact funext fun k => (rI_n (by omega)).trans (congrFun (rr 812 (by decide) (by decide)) k)
            · exact funext fun k => (rI_n (by omega)).trans (congrFun (rr 813 (by decide) (by decide)) k)
            · exact funext fun k => (rI_n (by omega)).trans (congrFun (rr 814 (by decide) (by decide)) k)
            · rw [rI_n (by decide)]; exact e6
            · rw [rI_n (by decide)]; exact e10
            · rw [rI_s]; exact c1.2.2.2.1
            · rw [rI_n (by decide)]; exact e2
            · rw [rI_n (by decide)]; exact e1
          refine d_keeps (w := w) (sOK_Rd hs _ _ _) h2 (fun m3 a1 a2 => b_X10_text_103 ?_)
          have p3 : pR m3 816 0 (s_G τ) := pR_eq c1.2.2.2.2.2 (by rw [a2.1 816 (by decide) (by decide)]; exact funext fun k => rI_n (by omega))
          refine up_to (n := 57) (P := fun k => ∀ m', (∀ j, j < k → m'.1 811 (57 * w + j) = m3.1 816 j) → (∀ j, (j < 57 * w ∨ 57 * w + 57 ≤ j) → m'.1 811 j = m3.1 811 j) → fM [] [811] m3 m' → WP g gr (d + 7) mX10_text 0 0 105 [.ref 810, .int (nI w), .retAddr 0, .int (nI k)] [] (mk m') Q) ?_ ?_ 0 (Nat.zero_le _) m3 (fun j hj => absurd hj (Nat.not_lt_zero _)) (fun _ _ => rfl) (fM_refl _ _ _)
          · intro m' b1 b2 b3
            refine b_X10_text_105 (pk_le 57 57 (fun _ => ?_) (fun z => absurd z (Nat.lt_irrefl _)))
            have p4 : pW m' w (s_G τ) := pR_copy p3 (fun k hk => by rw [Nat.zero_add]; exact b1 k hk)
            have e0 : m'.1 816 0 = nI (gn (s_G τ)) := by rw [fM_1 b3 (a := 816)]; exact p3.1
            rw [e0]
            exact K _ (MR_g a1 p4 b2 (b3.1 812 (by decide) (by decide)) (b3.1 813 (by decide) (by decide)) (b3.1 814 (by decide) (by decide)) (b3.1 815 (by decide) (by decide)) (fun k _ => fM_2 b3 (by simp))) (fX_trans fX_b (fX_trans (fX_fM g0) (fX_trans (fX_fM c4) (fX_trans fX_w (fX_trans (fX_fM a2) (fX_fM b3))))))
          · intro k hk ih m' b1 b2 b3
            refine b_X10_text_105 (pk_le 57 k (fun z => by omega) (fun _ => ?_))
            rw [e57, nI_add, cw (show k < 2 ^ 31 by omega), cw (show 57 * w + k < 2 ^ 31 by omega), fM_1 b3 (a := 816) k, nI_1]
            refine ⟨pk_in k 57 (by omega), pk_in (57 * w + k) 171 (by omega), ih _ (fun j hj => ?_) (fun j hj => by rw [rI_n (by omega)]; exact b2 j hj) (fM_trans b3 fM_r)⟩
            by_cases z : j = k
            · subst z; exact rI_s
            · rw [rI_n (by omega)]; exact b1 j (by omega)
end ZAc
