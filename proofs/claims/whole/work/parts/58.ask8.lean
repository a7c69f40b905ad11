/-! questions: cards, the fewest set apart -/
def pCd (m : zm) (G : Gr) (n : Nat) : Prop := ∀ v, v < n → ∀ i, i < 28 → m.1 828 (28 * v + i) = nI (l_c (S_t (srch (gD G v))) i)
def unl (G : Gr) (n : Nat) : Nat := fb_ct (fun v => fb_ct (fun u => kcd G u == kcd G v) v == 0) n
def lkc (G : Gr) (n : Nat) : Nat := fb_ct (fun u => kcd G u == kcd G 0) n
section ZAs
variable {g : zG} {gr : Bool} {e : Nat} {m : zm} {Q : Option Value → zH → Prop}
theorem d_cmpCards {G : Gr} {n a b : Nat} (hG : gWF G) (hn : 1 < gn G) (hnn : n ≤ gn G) (hp : pCd m G n) (ha : a < n) (hb : b < n) (K : ∀ r : Int32, (r = 0 ↔ kcd G a = kcd G b) → Q (some (.int r)) (mk m)) : Ok g gr e mX10_compares 0 0 [.ref 828, .int (nI (28 * a)), .ref 828, .int (nI (28 * b)), .int (nI 28)] (mk m) Q := by
  have h7 := hG.2.1.2
  have h1 := srch_best (gD_WF (v := a) hG hn)
  have h2 := srch_best (gD_WF (v := b) hG hn)
  exact d_compares (i := 28 * a) (j := 28 * b) (many := 28) (B := 10) (f := l_c (S_t (srch (gD G a)))) (h := l_c (S_t (srch (gD G b)))) a_828 a_828 (by omega) (by omega) (by decide) (by decide) (by decide) (fun k hk => ⟨hp a ha k hk, h1.2.1.1 k⟩) (fun k hk => ⟨hp b hb k hk, h2.2.1.1 k⟩) (fun r _ r2 => K r r2)
theorem d_cardsTail {G : Gr} {d t : Nat} (hG : gWF G) (hn : 1 < gn G) (hp : pCd m G (gn G)) (ht : t < 2) (K : Q (some (.int (nI (if t = 0 then unl G (gn G) else lkc G (gn G))))) (mk m)) : WP g gr (d + 15) mX10_cards 0 0 100 [.ref 810, .retAddr 0, .int (nI t), .int (nI (gn G)), .int 0, .int 0, .int 0, .retAddr 0, .retAddr 0] [] (mk m) Q := by
  have h7 := hG.2.1.2
  refine up_to (n := gn G) (P := fun v => WP g gr (d + 15) mX10_cards 0 0 100 [.ref 810, .retAddr 0, .int (nI t), .int (nI (gn G)), .int (nI (unl G v)), .int (nI (lkc G v)), .int (nI v), .retAddr 0, .retAddr 0] [] (mk m) Q) ?_ (fun v hv ih => ?_) 0 (Nat.zero_le _)
  · refine b_X10_cards_100 (pk_le (gn G) (gn G) (fun _ => ⟨fun z => ?_, fun z => ?_⟩) (fun z => absurd z (Nat.lt_irrefl _)))
    · rw [if_neg (fun y => z (by rw [y]; rfl))] at K; exact K
    · rw [show (0 : Int32) = nI 0 from rfl, nI_eq (by omega) (by decide)] at z
      rw [if_pos z] at K; exact K
  · have e1 : unl G (v + 1) = unl G v + (if (fb_ct (fun u => kcd G u == kcd G v) v == 0) = true then 1 else 0) := fb_ct_succ _ _
    have e2 : lkc G (v + 1) = lkc G v + (if (kcd G v == kcd G 0) = true then 1 else 0) := fb_ct_succ _ _
    have e28 : ∀ t, (28 : Int32) * nI t = nI (28 * t) := fun t => pk_mul 28 t
    refine b_X10_cards_100 (pk_le (gn G) v (fun z => by omega) (fun _ => ?_))
    -- behind the flag
    have behind : ∀ l4 : Nat, l4 = unl G (v + 1) → Ok g gr (d + 14) mX10_compares 0 0 [.ref 828, .int 0, .ref 828, .int ((28 : Int32) * nI v), .int 28] (mk m) (fun r h2 => WP g gr (d + 15) mX10_cards 0 0 199 [.ref 810, .retAddr 0, .int (nI t), .int (nI (gn G)), .int (nI l4), .retAddr 0, .int (nI v), .retAddr 0, .retAddr 0] (r.toList ++ [.int (nI (lkc G v))]) h2 Q) := by
      intro l4 h4
      rw [e28]
      refine d_cmpCards (a := 0) hG hn (Nat.le_refl _) hp (by omega) hv (fun r r2 => b_X10_cards_199 ?_)
      rw [nI_1, nI_1, show (0 : Int32) = nI 0 from rfl, nI_add, h4]
      refine ⟨fun z => ?_, fun z => ?_⟩
      · rw [e2, bq_f (fun y => z (r2.mpr y.symm))] at ih; exact ih
      · rw [e2, bq_t (r2.mp z).symm] at ih; exact ih
    refine up_to (n := v) (P := fun u => ∀ lf : Int32, ((lf = 1 ∧ ∀ x, x < u → kcd G x ≠ kcd G v) ∨ (lf = 0 ∧ ∃ x, x < u ∧ kcd G x = kcd G v)) → WP g gr (d + 15) mX10_cards 0 0 112 [.ref 810, .retAddr 0, .int (nI t), .int (nI (gn G)), .int (nI (unl G v)), .int (nI (lkc G v)), .int (nI v), .int lf, .int (nI u)] [] (mk m) Q) ?_ ?_ 0 (Nat.zero_le _) 1 (Or.inl ⟨rfl, fun x hx => absurd hx (Nat.not_lt_zero _)⟩)
    · intro lf hf
      refine b_X10_cards_112 (pk_le v v (fun _ => ?_) (fun z => absurd z (Nat.lt_irrefl _)))
      rw [nI_1, show nI (unl G v) + (0 : Int32) = nI (unl G v + 0) from by rw [show (0 : Int32) = nI 0 from rfl, nI_add]]
      rcases hf with ⟨rfl, h1⟩ | ⟨rfl, x, x1, x2⟩
      · refine ⟨fun z => absurd z (by decide), fun _ => behind _ ?_⟩
        rw [e1, bq_t (ct_0 fun x hx => bq_f (h1 x hx))]; rfl
      · refine ⟨fun _ => behind _ ?_, fun z => absurd rfl z⟩
        have := (fb_ct_pos (p := fun u => kcd G u == kcd G v)).mpr ⟨x, x1, bq_t x2⟩
        rw [e1, bq_f (show fb_ct (fun u => kcd G u == kcd G v) v ≠ 0 by omega)]; rfl
    · intro u hu ihu lf hf
      refine b_X10_cards_112 (pk_le v u (fun z => by omega) (fun _ => ?_))
      rw [nI_1]
      rcases hf with ⟨rfl, h1⟩ | ⟨rfl, x, x1, x2⟩
      · refine ⟨fun z => absurd z (by decide), fun _ => ?_⟩
        rw [e28, e28]
        refine d_cmpCards hG hn (Nat.le_refl _) hp (by omega) hv (fun r r2 => b_X10_cards_147 ?_)
        rw [nI_1]
        refine ⟨fun z => ihu 0 (Or.inr ⟨rfl, u, Nat.lt_succ_self _, r2.mp z⟩), fun z => ihu 1 (Or.inl ⟨rfl, fun x hx => ?_⟩)⟩
        by_cases y : x = u
        · subst y; exact fun q => z (r2.mpr q)
        · exact h1 x (by omega)
      · exact ⟨fun _ => ihu 0 (Or.inr ⟨rfl, x, by omega, x2⟩), fun z => absurd rfl z⟩
end ZAs
section ZAs
theorem x_cards {s : Sg} (hs : sOK s) (l1 l2 : Int32) : BX s mX9_cards mX10_cards [.int l1, .int l2] := by
  rcases i_case l1 3 (by decide) with h | ⟨w, hw, rfl⟩
  · refine ⟨qs s 1, -1, sOK_qs hs 1, fun g gr e m Q he hc K => ?_, fun g gr e m Q he hm K => ?_⟩
    · obtain ⟨d, rfl⟩ := dn (show 15 ≤ e by omega)
      exact b_X9_cards_0 (rg_n h (K _ (CR_t hc) fC_t))
    · obtain ⟨d, rfl⟩ := dn (show 15 ≤ e by omega)
      refine b_X10_cards_0 ?_
      rintro m1 rfl
      exact ite_n (isG_n h) (m_no hm K)
  · have hG := hs.1 w hw
    have h7 := hG.2.1.2
    rcases i_case l2 2 (by decide) with h2 | ⟨k, hk, rfl⟩
    · refine ⟨qs s 1, -1, sOK_qs hs 1, fun g gr e m Q he hc K => ?_, fun g gr e m Q he hm K => ?_⟩
      · obtain ⟨d, rfl⟩ := dn (show 15 ≤ e by omega)
        exact b_X9_cards_0 (rg_y hw ⟨pk_in w 3 hw, rh_n (n := 1) h2 (K _ (CR_t hc) fC_t)⟩)
      · obtain ⟨d, rfl⟩ := dn (show 15 ≤ e by omega)
        refine b_X10_cards_0 ?_
        rintro m1 rfl
        exact ite_y (isG_y hw) (ite_n (in_n (n := 1) (by decide) h2) (m_no hm K))
    · by_cases h1 : gn (y_W s w) = 1
      · refine ⟨qs s 5, -1, sOK_qs hs 5, fun g gr e m Q he hc K => ?_, fun g gr e m Q he hm K => ?_⟩
        · obtain ⟨d, rfl⟩ := dn (show 15 ≤ e by omega)
          refine b_X9_cards_0 (rg_y hw ⟨pk_in w 3 hw, rh_y (n := 1) hk ?_⟩)
          rw [cw (show w < 2 ^ 31 by omega), W_n hc hw, h1]
          exact ⟨fun z => absurd rfl z, fun _ => K _ (CR_t hc) fC_t⟩
        · obtain ⟨d, rfl⟩ := dn (show 15 ≤ e by omega)
          have hb := MR_b hm
          have pw : pW (wBegins m) w (y_W s w) := hb.1 w hw
          refine b_X10_cards_0 ?_
          rintro m1 rfl
          refine ite_y (isG_y hw) (ite_y (in_y (n := 1) (by omega) (by decide)) ⟨MR_1 hb, ?_⟩)
          rw [e57, c57 hw, pw.1, h1]
          exact ⟨v57 hw, fun z => absurd rfl z, fun _ => (m_no hm K).2⟩
      · have hn : 1 < gn (y_W s w) := by have := hG.2.1.1; omega
        have hne : ¬ nI (gn (y_W s w)) = 1 := by
          rw [show (1 : Int32) = nI 1 from rfl, nI_eq (by omega) (by decide)]; exact h1
        have hpl : ∀ u, lcd (gn (y_W s w) - 1) (S_t (srch (gD (y_W s w) u))) := fun u => (srch_best (gD_WF (v := u) hG hn)).2.1
        refine ⟨qs s 0, nI (if k = 0 then unl (y_W s w) (gn (y_W s w)) else lkc (y_W s w) (gn (y_W s w))), sOK_qs hs 0, fun g gr e m Q he hc K => ?_, fun g gr e m Q he hm K => ?_⟩
        · obtain ⟨d, rfl⟩ := dn (show 15 ≤ e by omega)
          refine b_X9_cards_0 (rg_y hw ⟨pk_in w 3 hw, rh_y (n := 1) hk ?_⟩)
          rw [cw (show w < 2 ^ 31 by omega), W_n hc hw]
          refine ⟨fun _ => k_nameCards (s272 hw) (by omega) hG hn (hc.1.1 w hw) (by omega) hc.2.2.2 (fun m1 a1 a2 a3 => b_X9_cards_44 (s272 hw) ?_), fun z => absurd z hne⟩
          have c1 : CR s m1 := ⟨CC_fQ hc.1 (fun a ha => a3 a (by omega)), fun x hx => seen7_eq (hc.2.1 x hx) fun a y1 y2 => a3 a (by omega), fun x hx => seen6_eq (hc.2.2.1 x hx) fun a y1 y2 => a3 a (by omega), a1⟩
          have f1 : fC m m1 := fun a ha => a3 a (by omega)
          rw [W_n c1 hw]
          rcases (show k = 0 ∨ k = 1 by omega) with rfl | rfl
          · refine ⟨fun z => absurd rfl z, fun _ => ?_⟩
            exact k_unlikeCards (l := fun u => S_t (srch (gD (y_W s w) u))) (n := gn (y_W s w) - 1) (by omega) (by omega) h7 (fun u hu => ⟨a2 u hu, hpl u⟩) (b_X9_cards_57 (K _ (CR_t c1) (fC_trans f1 fC_t)))
          · refine ⟨fun _ => ?_, fun z => absurd z (by decide)⟩
            exact k_cardsLike (l := fun u => S_t (srch (gD (y_W s w) u))) (v := 0) (n := gn (y_W s w) - 1) (by omega) (by omega) (by decide) h7 (fun u hu => ⟨a2 u (by omega), hpl u⟩) (b_X9_cards_69 (K _ (CR_t c1) (fC_trans f1 fC_t)))
        · obtain ⟨d, rfl⟩ := dn (show 15 ≤ e by omega)
          have hb := MR_b hm
          have pw : pW (wBegins m) w (y_W s w) := hb.1 w hw
          refine b_X10_cards_0 ?_
          rintro m1 rfl
          refine ite_y (isG_y hw) (ite_y (in_y (n := 1) (by omega) (by decide)) ⟨MR_1 hb, ?_⟩)
          rw [e57, c57 hw, pw.1]
          refine ⟨v57 hw, fun _ => ?_, fun z => absurd z hne⟩
          refine up_to (n := gn (y_W s w)) (P := fun v => ∀ m', pCd m' (y_W s w) v → fM [21, 25, 30, 31, 32, 33, 35] [817, 818, 819, 820, 821, 822, 823, 824, 825, 826, 827, 828] (wBegins m) m' → WP g gr (d + 15) mX10_cards 0 0 66 [.ref 810, .int (nI w), .int (nI k), .int (nI (gn (y_W s w))), .int (nI v), .retAddr 0, .retAddr 0, .retAddr 0, .retAddr 0] [] (mk m') Q) ?_ ?_ 0 (Nat.zero_le _) _ (fun v hv => absurd hv (Nat.not_lt_zero _)) (fM_refl _ _ _)
          · intro m' a1 a2
            exact b_X10_cards_66 (pk_le (gn (y_W s w)) (gn (y_W s w)) (fun _ => d_cardsTail hG hn a1 hk (K _ (MR_fM hb a2) (fX_trans fX_b (fX_fM a2)))) (fun z => absurd z (Nat.lt_irrefl _)))
          · intro v hv ih m' a1 a2
            refine b_X10_cards_66 (pk_le (gn (y_W s w)) v (fun z => by omega) (fun _ => ?_))
            refine d_laysCard (by omega) hG hw (pW_fM pw a2) hv hn (fun m2 b1 b2 => b_X10_cards_79 (d_keepsName (v := v) (by omega) (gD_WF hG hn) b1 (by omega) (fun m3 c1 c2 c3 => b_X10_cards_85 ?_)))
            rw [nI_1]
            refine ih m3 (fun x hx i hi => ?_) (fM_trans a2 (fM_trans (fM_mono b2) (fM_mono c3)))
            by_cases z : x = v
            · subst z
              rw [c1 i hi, (best_same (gD_WF (v := x) hG hn)).2.2]
            · rw [c2 _ (by omega), fM_1 b2]; exact a1 x (by omega) i hi
theorem two_of {p : Nat → Bool} {n a b : Nat} (ha : a < b) (hb : b < n) (pa : p a = true) (pb : p b = true) : 1 < fb_ct p n := by
  have e1 : fb_ct p (a + 1) = fb_ct p a + (if p a = true then 1 else 0) := fb_ct_succ _ _
  have e2 : fb_ct p (b + 1) = fb_ct p b + (if p b = true then 1 else 0) := fb_ct_succ _ _
  rw [if_pos pa] at e1
  rw [if_pos pb] at e2
  have m1 := fb_ct_mono p (show a + 1 ≤ b from ha)
  have m2 := fb_ct_mono p (show b + 1 ≤ n from hb)
  omega
theorem bsq_all {G : Gr} (hG : gWF G) : bsq G (2 ^ gn G - 1) = gn G := by
  have h7 := hG.2.1.2
  have key : ∀ v, v ≤ gn G → ∀ u o, u < v → o < gn G → o ≠ u → (bss G (2 ^ gn G - 1) v).1 o ≠ (bss G (2 ^ gn G - 1) v).1 u := by
    intro v
    induction v with
    | zero => intro _ u o hu; exact absurd hu (Nat.not_lt_zero _)
    | succ v ih =>
      intro hv u o hu ho hou
      have hbit : (2 ^ gn G - 1).testBit v = true := by rw [Nat.testBit_two_pow_sub_one]; exact decide_eq_true (by omega)
      have hcw := bss_cwf hG (2 ^ gn G - 1) v (by omega)
      rw [bss_y hbit]
      generalize hx : bss G (2 ^ gn G - 1) v = x at *
      show pa x.1 (gn G) v o ≠ pa x.1 (gn G) v u
      have ihv := ih (by omega)
      unfold pa
      by_cases hz : 1 < cz x.1 (gn G) (x.1 v)
      · rw [if_pos hz]
        by_cases huv : u = v
        · subst huv
          unfold ap
          rw [if_neg (show ¬ (u ≠ u ∧ x.1 u ≤ x.1 u) from fun y => y.1 rfl)]
          by_cases y : x.1 u ≤ x.1 o
          · rw [if_pos ⟨hou, y⟩]; omega
          · rw [if_neg (fun q => y q.2)]; omega
        · have hne := ihv u o (by omega) ho hou
          rcases Nat.lt_or_ge (x.1 o) (x.1 u) with y | y
          · have := ap_lt (v := v) y; omega
          · have := ap_lt (v := v) (show x.1 u < x.1 o by omega); omega
      · rw [if_neg hz]
        by_cases huv : u = v
        · subst huv
          intro e
          apply hz
          rcases Nat.lt_or_ge o u with y | y
          · exact two_of (p := fun z => x.1 z == x.1 u) y (by omega) (bq_t e) (bq_t rfl)
          · exact two_of (p := fun z => x.1 z == x.1 u) (show u < o by omega) ho (bq_t rfl) (bq_t e)
        · exact ihv u o (by omega) ho hou
  have hw := bss_cwf hG (2 ^ gn G - 1) (gn G) (Nat.le_refl _)
  have hall := key (gn G) (Nat.le_refl _)
  have hq := cwf_le hw
  have hpe : pe (gn G) (bss G (2 ^ gn G - 1) (gn G)).1 := ⟨fun v hv => by have := hw.1 v hv; omega, fun i j hi hj e => Classical.byContradiction fun z => hall j i hj hi z e⟩
  obtain ⟨v, hv, ev⟩ := pe_onto hpe (show gn G - 1 < gn G by have := hG.2.1.1; omega)
  have h1 := hw.1 v hv
  have h2 := rf_all h7 7 _ _ hw
  have h3 := cwf_le h2.1
  have h4 := h2.2.1
  show (rf G 7 _ _).2.1 = gn G
  omega
end ZAs
