/-! questions: what is common, and the first ones -/
theorem ite_y {P A C : Prop} (h : P) (c : C) : (P → C) ∧ (¬ P → A) := ⟨fun _ => c, fun z => absurd h z⟩
theorem ite_n {P A C : Prop} (h : ¬ P) (a : A) : (P → C) ∧ (¬ P → A) := ⟨fun z => absurd z h, fun _ => a⟩
theorem rg_y {N : Int32} {A B C : Prop} {k n : Nat} (hk : k < n) (c : C) (hN : N = nI n := by rfl) (hn : n < 2 ^ 31 := by decide) : (nI k < 0 → A) ∧ (¬ nI k < 0 → (N ≤ nI k → B) ∧ (¬ N ≤ nI k → C)) := by
  subst hN
  exact ⟨fun z => absurd z (i_nn (by omega)), fun _ => ⟨fun z => absurd z (nI_ge hk hn), fun _ => c⟩⟩
theorem rg_n {N l : Int32} {A C : Prop} {n : Nat} (h : l < 0 ∨ (¬ l < 0 ∧ nI n ≤ l)) (a : A) (hN : N = nI n := by rfl) : (l < 0 → A) ∧ (¬ l < 0 → (N ≤ l → A) ∧ (¬ N ≤ l → C)) := by
  subst hN
  exact ⟨fun _ => a, fun z => ⟨fun _ => a, fun y => by rcases h with h | h; exact absurd h z; exact absurd h.2 y⟩⟩
theorem rh_y {N : Int32} {A B C : Prop} {k n : Nat} (hk : k < n + 1) (c : C) (hN : N = nI n := by rfl) (hn : n < 2 ^ 31 := by decide) : (nI k < 0 → A) ∧ (¬ nI k < 0 → (nI k ≤ N → C) ∧ (¬ nI k ≤ N → B)) := by
  subst hN
  exact ⟨fun z => absurd z (i_nn (by omega)), fun _ => ⟨fun _ => c, fun z => absurd (nI_le (by omega) hn) z⟩⟩
theorem rh_n {N l : Int32} {A C : Prop} {n : Nat} (h : l < 0 ∨ (¬ l < 0 ∧ nI (n + 1) ≤ l)) (a : A) (hN : N = nI n := by rfl) (hn : n + 1 < 2 ^ 31 := by decide) : (l < 0 → A) ∧ (¬ l < 0 → (l ≤ N → C) ∧ (¬ l ≤ N → A)) := by
  subst hN
  refine ⟨fun _ => a, fun z => ⟨fun y => ?_, fun _ => a⟩⟩
  rcases h with h | h
  · exact absurd h z
  · exact absurd (Int32.le_trans h.2 y) (nI_ge (Nat.lt_succ_self n) hn)
theorem rl_y {N : Int32} {A B C : Prop} {k n : Nat} (hk : k < n) (c : C) (hN : N = nI n := by rfl) (hn : n < 2 ^ 31 := by omega) : (nI k < 0 → A) ∧ (¬ nI k < 0 → (nI k < N → C) ∧ (¬ nI k < N → B)) := by
  subst hN
  exact ⟨fun z => absurd z (i_nn (by omega)), fun _ => ⟨fun _ => c, fun z => absurd (nI_lt hk hn) z⟩⟩
theorem rl_n {N l : Int32} {A C : Prop} {n : Nat} (h : l < 0 ∨ (¬ l < 0 ∧ nI n ≤ l)) (a : A) (hN : N = nI n := by rfl) : (l < 0 → A) ∧ (¬ l < 0 → (l < N → C) ∧ (¬ l < N → A)) := by
  subst hN
  refine ⟨fun _ => a, fun z => ⟨fun y => ?_, fun _ => a⟩⟩
  rcases h with h | h
  · exact absurd h z
  · exact absurd y (Int32.not_lt.mpr h.2)
theorem has_y {m : zm} {o k n : Nat} (hk : k < n) (hp : m.1 o 0 = nI n) (hn : n < 2 ^ 31 := by omega) : tX1_has m o (nI k) := ⟨i_nn (by omega), by rw [hp]; exact nI_ge hk hn⟩
theorem has_n {m : zm} {o n : Nat} {l : Int32} (h : l < 0 ∨ (¬ l < 0 ∧ nI n ≤ l)) (hp : m.1 o 0 = nI n) : ¬ tX1_has m o l := by
  rintro ⟨a, b⟩
  rw [hp] at b
  rcases h with h | h
  · exact a h
  · exact b h.2
theorem isG_y {w : Nat} (hw : w < 3) : tX10_isGraph (nI w) := in_y (n := 2) (by omega) (by decide)
theorem isG_n {l : Int32} (h : l < 0 ∨ (¬ l < 0 ∧ nI 3 ≤ l)) : ¬ tX10_isGraph l := in_n (n := 2) (by decide) h
theorem in1_y {X : Int32} {k n : Nat} (hk : k < n) (hX : X = nI n) (hn : n < 2 ^ 31 := by omega) : tX10_in (nI k) 0 (X - 1) := by
  rw [hX, show (1 : Int32) = nI 1 from rfl, pk_sub (by omega)]
  exact in_y (by omega) (by omega)
theorem in1_n {X l : Int32} {n : Nat} (h : l < 0 ∨ (¬ l < 0 ∧ nI n ≤ l)) (hX : X = nI n) (hn : n < 2 ^ 31 := by omega) : ¬ tX10_in l 0 (X - 1) := by
  cases n with
  | zero =>
    rintro ⟨a, b⟩
    obtain ⟨k, hk, rfl⟩ := i_neg a
    rw [hX] at b
    apply b
    show nI 0 - 1 < nI k
    rw [show nI 0 - 1 = (-1 : Int32) from rfl, Int32.lt_iff_toInt_lt, nI_toInt hk, show (-1 : Int32).toInt = -1 from by decide]
    omega
  | succ n =>
    rw [hX, show (1 : Int32) = nI 1 from rfl, pk_sub (by omega)]
    exact in_n hn h
theorem e57 (w : Nat) : (57 : Int32) * nI w = nI (57 * w) := pk_mul 57 w
theorem c57 {w : Nat} (hw : w < 3) : (nI (57 * w)).toNatClampNeg = 57 * w := nI_clamp (by omega)
theorem cw {w : Nat} (hw : w < 2 ^ 31) : (nI w).toNatClampNeg = w := nI_clamp hw
theorem v57 {w : Nat} (hw : w < 3) : vp_in (nI (57 * w)) 171 := pk_in (57 * w) 171 (by omega)
/-- the model refuses -/
theorem m_no {s : Sg} {m : zm} {t : Int32} {Q : Option Value → zH → Prop} (hm : MR s m) (K : ∀ m', MR (qs s t) m' → fX m m' → Q (some (.int (-1))) (mk m')) : (wBegins m).1 810 1 = 0 ∧ Q (some (.int (-1))) (mk (wI (wBegins m) 810 1 t)) := ⟨MR_1 (MR_b hm), K _ (MR_t (MR_b hm)) (fX_trans fX_b fX_w)⟩
theorem m_no2 {s : Sg} {m0 m : zm} {t : Int32} {Q : Option Value → zH → Prop} (hm : MR (qs s 0) m) (f : fX m0 m) (K : ∀ m', MR (qs s t) m' → fX m0 m' → Q (some (.int (-1))) (mk m')) : m.1 810 1 = 0 ∧ Q (some (.int (-1))) (mk (wI m 810 1 t)) := ⟨MR_1 hm, K _ (MR_t hm) (fX_trans f fX_w)⟩
theorem W_n {s : Sg} {m : zm} (h : CR s m) {w : Nat} (hw : w < 3) : m.1 (272 + 140 * w) 0 = nI (gn (y_W s w)) := (h.1.1 w hw).1
theorem s272 {w : Nat} (hw : w < 3) : sX1 (272 + 140 * w) := (e_2 w hw).2
section ZAs
theorem x_fault {s : Sg} (hs : sOK s) : BX s mX9_fault mX10_fault [] := by
  refine ⟨s, y_f s, hs, fun g gr e m Q he hc K => ?_, fun g gr e m Q he hm K => ?_⟩
  · refine b_X9_fault_0 (d := e) ?_
    rw [hc.1.2.2.2.2.1]
    exact K m hc (fC_refl m)
  · refine b_X10_fault_0 (d := e) ?_
    intro m1 e1
    have f : fM [0] [] m m1 := by rw [e1]; exact fM_f
    have h1 := MR_fM hm f
    rw [h1.2.2.2.2.1]
    exact K m1 h1 (fX_fM f)
theorem x_where {s : Sg} (hs : sOK s) : BX s mX9_where mX10_where [] := by
  refine ⟨s, y_w s, hs, fun g gr e m Q he hc K => ?_, fun g gr e m Q he hm K => ?_⟩
  · obtain ⟨-, -, -, -, -, c1, c2, c3⟩ := hc.1
    refine b_X9_where_0 (d := e) ⟨fun z => ?_, fun z => ?_⟩
    · rw [← c2 (by rw [← c3]; exact z)]; exact K m hc (fC_refl m)
    · rw [c1 (by rw [← c3]; exact z)]; exact K m hc (fC_refl m)
  · refine b_X10_where_0 (d := e) ?_
    intro m1 e1
    have f : fM [0] [] m m1 := by rw [e1]; exact fM_f
    have h1 := MR_fM hm f
    rw [h1.2.2.2.2.2.1]
    exact K m1 h1 (fX_fM f)
theorem x_size {s : Sg} (hs : sOK s) : BX s mX9_size mX10_size [] := by
  refine ⟨s, nI (y_T s).length, hs, fun g gr e m Q he hc K => ?_, fun g gr e m Q he hm K => ?_⟩
  · refine b_X9_size_0 (d := e) ?_
    rw [hc.1.2.2.2.1.1]
    exact K m hc (fC_refl m)
  · refine b_X10_size_0 (d := e) ?_
    intro m1 e1
    have f : fM [0] [] m m1 := by rw [e1]; exact fM_f
    have h1 := MR_fM hm f
    rw [h1.2.2.2.1.1]
    exact K m1 h1 (fX_fM f)
theorem x_trouble {s : Sg} (hs : sOK s) : BX s mX9_trouble mX10_trouble [] := by
  refine ⟨s, y_t s, hs, fun g gr e m Q he hc K => ?_, fun g gr e m Q he hm K => ?_⟩
  · refine b_X9_trouble_0 (d := e) ?_
    rw [hc.1.2.2.2.2.2.2.2]
    exact K m hc (fC_refl m)
  · refine b_X10_trouble_0 (d := e) ?_
    intro m1 e1
    have f : fM [0] [] m m1 := by rw [e1]; exact fM_f
    have h1 := MR_fM hm f
    rw [h1.2.2.2.2.2.2]
    exact K m1 h1 (fX_fM f)
theorem x_colour {s : Sg} (hs : sOK s) (l1 l2 : Int32) : BX s mX9_colour mX10_colour [.int l1, .int l2] := by
  rcases i_case l1 3 (by decide) with h | ⟨w, hw, rfl⟩
  · refine ⟨qs s 1, -1, sOK_qs hs 1, fun g gr e m Q he hc K => ?_, fun g gr e m Q he hm K => ?_⟩
    · obtain ⟨d, rfl⟩ := dn (show 1 ≤ e by omega)
      exact b_X9_colour_0 (rg_n h (K _ (CR_t hc) fC_t))
    · obtain ⟨d, rfl⟩ := dn (show 3 ≤ e by omega)
      refine b_X10_colour_0 ?_
      rintro m1 rfl
      exact ite_n (isG_n h) (m_no hm K)
  · have hG := hs.1 w hw
    have h7 := hG.2.1.2
    rcases i_case l2 (gn (y_W s w)) (by omega) with h2 | ⟨v, hv, rfl⟩
    · refine ⟨qs s 1, -1, sOK_qs hs 1, fun g gr e m Q he hc K => ?_, fun g gr e m Q he hm K => ?_⟩
      · obtain ⟨d, rfl⟩ := dn (show 1 ≤ e by omega)
        refine b_X9_colour_0 (rg_y hw ⟨pk_in w 3 hw, ?_⟩)
        rw [cw (by omega)]
        exact ite_n (has_n h2 (W_n hc hw)) (K _ (CR_t hc) fC_t)
      · obtain ⟨d, rfl⟩ := dn (show 3 ≤ e by omega)
        refine b_X10_colour_0 ?_
        rintro m1 rfl
        refine ite_y (isG_y hw) ?_
        rw [e57, c57 hw]
        exact ⟨v57 hw, ite_n (in1_n h2 ((MR_b hm).1 w hw).1) (m_no hm K)⟩
    · refine ⟨qs s 0, nI (gc (y_W s w) v), sOK_qs hs 0, fun g gr e m Q he hc K => ?_, fun g gr e m Q he hm K => ?_⟩
      · obtain ⟨d, rfl⟩ := dn (show 1 ≤ e by omega)
        refine b_X9_colour_0 (rg_y hw ⟨pk_in w 3 hw, ?_⟩)
        rw [cw (by omega)]
        refine ite_y (has_y hv (W_n hc hw)) ⟨pk_in v 7 (by omega), ?_⟩
        rw [cw (by omega), (hc.1.1 w hw).2.1 v (by omega)]
        exact K _ (CR_t hc) fC_t
      · obtain ⟨d, rfl⟩ := dn (show 3 ≤ e by omega)
        refine b_X10_colour_0 ?_
        rintro m1 rfl
        have hb := MR_b hm
        have hp := hb.1 w hw
        refine ite_y (isG_y hw) ?_
        rw [e57, c57 hw]
        refine ⟨v57 hw, ite_y (in1_y hv hp.1) ⟨MR_1 hb, ?_⟩⟩
        rw [show (1 : Int32) = nI 1 from rfl, nI_add, nI_add]
        refine ⟨pk_in (57 * w + 1 + v) 171 (by omega), ?_⟩
        rw [cw (by omega), hp.2.1 v (by omega)]
        exact K _ hb fX_b
theorem x_kind {s : Sg} (hs : sOK s) (l1 l2 l3 : Int32) : BX s mX9_kind mX10_kind [.int l1, .int l2, .int l3] := by
  rcases i_case l1 3 (by decide) with h | ⟨w, hw, rfl⟩
  · refine ⟨qs s 1, -1, sOK_qs hs 1, fun g gr e m Q he hc K => ?_, fun g gr e m Q he hm K => ?_⟩
    · obtain ⟨d, rfl⟩ := dn (show 1 ≤ e by omega)
      exact b_X9_kind_0 (rg_n h (K _ (CR_t hc) fC_t))
    · obtain ⟨d, rfl⟩ := dn (show 3 ≤ e by omega)
      refine b_X10_kind_0 ?_
      rintro m1 rfl
      exact ite_n (isG_n h) (m_no hm K)
  · have hG := hs.1 w hw
    have h7 := hG.2.1.2
    have cls : ∀ (r t : Int32), t ≠ 4 → ∀ (g : zG) (gr : Bool) (e : Nat) (m : zm) (Q : Option Value → zH → Prop), 18 ≤ e → CR s m → (∀ m', CR (qs s t) m' → fC m m' → Q (some (.int r)) (mk m')) → ((tX1_has m (272 + 140 * w) l2 → ((tX1_has m (272 + 140 * w) l3 → ((¬ l2 = l3 → (vp_in l2 7 ∧ (vp_in l3 7 ∧ (Q (some (.int (m.1 (272 + 140 * w + 3 + l2.toNatClampNeg) l3.toNatClampNeg))) (mk (wI m 1 13 (0 : Int32))))))) ∧ (l2 = l3 → (Q (some (.int (-1 : Int32))) (mk (wI m 1 13 (5 : Int32))))))) ∧ (¬ tX1_has m (272 + 140 * w) l3 → (Q (some (.int (-1 : Int32))) (mk (wI m 1 13 (1 : Int32))))))) ∧ (¬ tX1_has m (272 + 140 * w) l2 → (Q (some (.int (-1 : Int32))) (mk (wI m 1 13 (1 : Int32)))))) → Ok g gr e mX9_kind 0 0 [.ref 1, .int (nI w), .int l2, .int l3] (mk m) Q := by
      intro r t ht g gr e m Q he hc K HH
      obtain ⟨d, rfl⟩ := dn (show 1 ≤ e by omega)
      refine b_X9_kind_0 (rg_y hw ⟨pk_in w 3 hw, ?_⟩)
      rw [cw (by omega)]
      exact HH
    rcases i_case l2 (gn (y_W s w)) (by omega) with h2 | ⟨a, ha, rfl⟩
    · refine ⟨qs s 1, -1, sOK_qs hs 1, fun g gr e m Q he hc K => ?_, fun g gr e m Q he hm K => ?_⟩
      · exact cls (-1) 1 (by decide) g gr e m Q he hc K (ite_n (has_n h2 (W_n hc hw)) (K _ (CR_t hc) fC_t))
      · obtain ⟨d, rfl⟩ := dn (show 3 ≤ e by omega)
        refine b_X10_kind_0 ?_
        rintro m1 rfl
        refine ite_y (isG_y hw) ?_
        rw [e57, c57 hw]
        exact ⟨v57 hw, ite_n (in1_n h2 ((MR_b hm).1 w hw).1) (m_no hm K)⟩
    · rcases i_case l3 (gn (y_W s w)) (by omega) with h3 | ⟨b, hb, rfl⟩
      · refine ⟨qs s 1, -1, sOK_qs hs 1, fun g gr e m Q he hc K => ?_, fun g gr e m Q he hm K => ?_⟩
        · exact cls (-1) 1 (by decide) g gr e m Q he hc K (ite_y (has_y ha (W_n hc hw)) (ite_n (has_n h3 (W_n hc hw)) (K _ (CR_t hc) fC_t)))
        · obtain ⟨d, rfl⟩ := dn (show 3 ≤ e by omega)
          refine b_X10_kind_0 ?_
          rintro m1 rfl
          refine ite_y (isG_y hw) ?_
          rw [e57, c57 hw]
          exact ⟨v57 hw, ite_y (in1_y ha ((MR_b hm).1 w hw).1) (ite_n (in1_n h3 ((MR_b hm).1 w hw).1) (m_no hm K))⟩
      · by_cases hab : a = b
        · subst hab
          refine ⟨qs s 5, -1, sOK_qs hs 5, fun g gr e m Q he hc K => ?_, fun g gr e m Q he hm K => ?_⟩
          · exact cls (-1) 5 (by decide) g gr e m Q he hc K (ite_y (has_y ha (W_n hc hw)) (ite_y (has_y ha (W_n hc hw)) ⟨fun z => absurd rfl z, fun _ => K _ (CR_t hc) fC_t⟩))
          · obtain ⟨d, rfl⟩ := dn (show 3 ≤ e by omega)
            refine b_X10_kind_0 ?_
            rintro m1 rfl
            have hb' := MR_b hm
            have hp := hb'.1 w hw
            refine ite_y (isG_y hw) ?_
            rw [e57, c57 hw]
            exact ⟨v57 hw, ite_y (in1_y ha hp.1) (ite_y (in1_y ha hp.1) ⟨MR_1 hb', fun z => absurd rfl z, fun _ => K _ (MR_t hb') (fX_trans fX_b fX_w)⟩)⟩
        · have hne : ¬ nI a = nI b := fun z => hab ((nI_eq (by omega) (by omega)).mp z)
          refine ⟨qs s 0, nI (gk (y_W s w) a b), sOK_qs hs 0, fun g gr e m Q he hc K => ?_, fun g gr e m Q he hm K => ?_⟩
          · refine cls (nI (gk (y_W s w) a b)) 0 (by decide) g gr e m Q he hc K (ite_y (has_y ha (W_n hc hw)) (ite_y (has_y hb (W_n hc hw)) ⟨fun _ => ⟨pk_in a 7 (by omega), pk_in b 7 (by omega), ?_⟩, fun z => absurd z hne⟩))
            rw [cw (show a < 2 ^ 31 by omega), cw (show b < 2 ^ 31 by omega), (hc.1.1 w hw).2.2.1 a b (by omega) (by omega)]
            exact K _ (CR_t hc) fC_t
          · obtain ⟨d, rfl⟩ := dn (show 3 ≤ e by omega)
            refine b_X10_kind_0 ?_
            rintro m1 rfl
            have hb' := MR_b hm
            have hp := hb'.1 w hw
            refine ite_y (isG_y hw) ?_
            rw [e57, c57 hw]
            refine ⟨v57 hw, ite_y (in1_y ha hp.1) (ite_y (in1_y hb hp.1) ⟨MR_1 hb', fun _ => ?_, fun z => absurd z hne⟩)⟩
            rw [show (8 : Int32) = nI 8 from rfl, show (7 : Int32) = nI 7 from rfl, pk_mul, nI_add, nI_add, nI_add]
            refine ⟨pk_in (57 * w + 8 + 7 * a + b) 171 (by omega), ?_⟩
            rw [cw (by omega), hp.2.2 a b (by omega) (by omega)]
            exact K _ hb' fX_b
end ZAs
