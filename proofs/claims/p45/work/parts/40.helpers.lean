/-! the class GraphNames: what its calls share -/
def fwt (G : Gr) : Nat → Nat
  | 0 => 2 ^ gn G - 1
  | s + 1 => if fb_ct s.testBit 7 < fb_ct (fwt G s).testBit 7 ∧ bsq G s = gn G then s else fwt G s
theorem fwt_lt {G : Gr} (hn : gn G ≤ 7) : ∀ s, s ≤ 2 ^ gn G → fwt G s < 128 := by
  have h1 : 2 ^ gn G ≤ 2 ^ 7 := Nat.pow_le_pow_right (by decide) hn
  intro s
  induction s with
  | zero => intro _; show 2 ^ gn G - 1 < 128; omega
  | succ s ih =>
    intro hs
    show (if _ then _ else _) < 128
    split
    · omega
    · exact ih (by omega)
def kcd (G : Gr) (v : Nat) : Nat := kc (S_t (srch (gD G v)))
theorem srch_best {G : Gr} (hG : gWF G) : lmk (gn G) (S_t (srch G)) ∧ lcd (gn G) (S_t (srch G)) ∧ pe (gn G) (l_a (S_t (srch G))) := by
  have h := (sw_sft hG (k := 7) (nod_0 hG) (sft_0 G)).1 (best_same hG).1
  exact ⟨h.2.1, h.2.2.1, h.2.2.2.2⟩
section ZHe
variable {g : zG} {gr : Bool} {e : Nat} {m : zm} {Q : Option Value → zH → Prop}
theorem k_alike {o x n q q' : Nat} {c c' a b : Nat → Nat} (ho : sX0 o) (hx : sX0 x) (he : 1 ≤ e) (hn : n ≤ 7) (hC : pC m o n c q) (hD : pC m x n c' q') (hc : cwf n c q) (hd : cwf n c' q') (hS : ∀ v, v < n → m.2 (o + 2) (c v) = lN (a v)) (hT : ∀ v, v < n → m.2 (x + 2) (c' v) = lN (b v)) (ha : ∀ v, v < n → a v < 2 ^ 63) (hb : ∀ v, v < n → b v < 2 ^ 63)
    (K1 : (q = q' ∧ ∀ j, j < q → (∀ u w, u < n → w < n → c u = j → c' w = j → a u = b w) ∧ cz c n j = cz c' n j) → Q (some (.int 1)) (mk m)) (K0 : ¬ (q = q' ∧ ∀ j, j < q → (∀ u w, u < n → w < n → c u = j → c' w = j → a u = b w) ∧ cz c n j = cz c' n j) → Q (some (.int 0)) (mk m)) : Ok g gr e mX0_alike 0 0 [.ref o, .ref x] (mk m) Q := by
  obtain ⟨d, rfl⟩ := dn he
  have hq := cwf_le hc
  have hq' := cwf_le hd
  refine b_X0_alike_0 ho hx (pk_eq q q' (fun eq => ?_) (fun z => K0 fun w => z w.1) hC.1 hD.1)
  subst eq
  obtain ⟨f, hf⟩ := pick hc
  obtain ⟨f', hf'⟩ := pick hd
  refine up_to (n := q) (P := fun i => (∀ j, j < i → (∀ u w, u < n → w < n → c u = j → c' w = j → a u = b w) ∧ cz c n j = cz c' n j) → WP g gr (d + 1) mX0_alike 0 0 15 [.ref o, .ref x, .int (nI i)] [] (mk m) Q) ?_ ?_ 0 (Nat.zero_le _) (fun j hj => absurd hj (Nat.not_lt_zero _))
  · intro h
    exact b_X0_alike_15 ho hx (pk_le q q (fun _ => K1 ⟨rfl, h⟩) (fun z => absurd z (Nat.lt_irrefl _)) hC.1)
  · intro i hi ih h
    obtain ⟨f1, f2⟩ := hf i hi
    obtain ⟨f1', f2'⟩ := hf' i hi
    have es := hS (f i) f1
    rw [f2] at es
    have et := hT (f' i) f1'
    rw [f2'] at et
    have all : a (f i) = b (f' i) ↔ ∀ u w, u < n → w < n → c u = i → c' w = i → a u = b w := by
      constructor
      · intro z u w hu hw eu ew
        have h1 := hS u hu
        have h2 := hT w hw
        rw [eu, es] at h1
        rw [ew, et] at h2
        have h1 := (pk_lEQ (ha _ f1) (ha u hu)).mp h1
        have h2 := (pk_lEQ (hb _ f1') (hb w hw)).mp h2
        omega
      · intro z; exact z _ _ f1 f1' f2 f2'
    refine b_X0_alike_15 ho hx (pk_le q i (fun z => by omega) (fun _ => ⟨pk_in i 7 (by omega), ?_⟩) hC.1)
    rw [nI_clamp (show i < 2 ^ 31 by omega), es, et, lg_cmp_eq, pk_lEQ (ha _ f1) (hb _ f1'), hC.2 i hi, hD.2 i hi, i_bm hn, i_bm hn, nI_1]
    refine ⟨fun z => K0 fun w => z (all.mpr (w.2 i hi).1), fun z => ?_⟩
    have z1 := cz_le c n i
    have z2 := cz_le c' n i
    refine pk_eq (cz c n i) (cz c' n i) (fun z3 => ih fun j hj => ?_) (fun z3 => K0 fun w => z3 (w.2 i hi).2)
    by_cases w : j = i
    · subst w; exact ⟨all.mp z, z3⟩
    · exact h j (by omega)
theorem k_toldApart {x y : Nat} {G H : Gr} (hx : sX1 x) (hy : sX1 y) (he : 3 ≤ e) (hG : gWF G) (hH : gWF H) (hn : gn G = gn H) (hg : pG m x G) (hh : pG m y H) (dx : x + 15 ≤ 147 ∨ 157 ≤ x) (dy : y + 15 ≤ 147 ∨ 157 ≤ y) (K : ∀ m', fz 147 157 m m' → Q (some (.int (told G H))) (mk m')) : Ok g gr e mX9_toldApart 0 0 [.ref 1, .ref x, .ref y] (mk m) Q := by
  obtain ⟨d, rfl⟩ := dn he
  have h7 := hG.2.1.2
  have bc : ∀ (L : Gr), gWF L → ∀ v, v < gn G → gc L v < 2 ^ 63 := fun L hL v _ => by have := hL.1.1 v; omega
  refine b_X9_toldApart_0 hx hy (k_byColours a_147 hx hG hg (by omega) (fun m1 a1 a2 a3 a4 => ?_))
  have f1 : fz 147 157 m m1 := fz_mono a4
  refine b_X9_toldApart_8 hx hy (k_byColours a_152 hy hH (pG_fz hh f1 (by omega)) (by omega) (fun m2 b1 b2 b3 b4 => ?_))
  have f2 : fz 147 157 m m2 := fz_trans f1 (fz_mono b4)
  have w1 := c0_cwf hG.1
  have w2 := c0_cwf hH.1
  rw [← hn] at b1 b3 w2
  refine b_X9_toldApart_16 hx hy (k_alike a_147 a_152 (by omega) h7 (pC_fz a1 b4 (by omega)) b1 w1 w2 (fun v hv => by rw [fz_2 b4 (by omega)]; exact a3 v hv) (fun v hv => b3 v hv) (bc G hG) (bc H hH) (fun z => ?_) (fun z => ?_))
  · have hcl := (alike0_iff hG hH hn).mpr z
    have et : told G H = tld G H 7 (c0 G) (c0 H) (q0 G) 1 := by unfold told; rw [if_pos hcl]
    refine b_X9_toldApart_27 hx hy ⟨fun _ => ?_, fun w => absurd w (by decide)⟩
    have key : ∀ k r c1 c2 q m', r + k = 8 → cwf (gn G) c1 q → cwf (gn G) c2 q → (∀ j, j < q → cz c1 (gn G) j = cz c2 (gn G) j) → pC m' 147 (gn G) c1 q → pC m' 152 (gn G) c2 q → fz 147 157 m m' → told G H = tld G H k c1 c2 q r → WP g gr (d + 3) mX9_toldApart 0 0 34 [.ref 1, .ref x, .ref y, .int (nI r), .retAddr 0] [] (mk m') Q := by
      intro k
      induction k with
      | zero =>
        intro r c1 c2 q m' hr d1 d2 d3 d4 d5 d6 d7
        have : r = 8 := by omega
        subst this
        refine b_X9_toldApart_34 hx hy (pk_lt 7 8 (fun _ => ?_) (fun z => absurd z (by decide)))
        have := K m' d6
        rw [d7] at this
        exact this
      | succ k ih =>
        intro r c1 c2 q m' hr d1 d2 d3 d4 d5 d6 d7
        have hq7 : q ≤ 7 := by have := cwf_le d1; omega
        refine b_X9_toldApart_34 hx hy (pk_lt 7 r (fun z => by omega) (fun _ => ?_))
        refine k_divide a_147 hx (by omega) hG (pG_fz hg d6 (by omega)) (by omega) d1 d4 (fun m3 e1 e2 e3 e4 => ?_)
        have f3 : fz 147 157 m m3 := fz_trans d6 (fz_mono e4)
        refine b_X9_toldApart_48 hx hy (k_divide a_152 hy (by omega) hH (pG_fz hh f3 (by omega)) (by omega) (by rw [← hn]; exact d2) (by rw [← hn]; exact pC_fz d5 e4 (by omega)) (fun m4 g1 g2 g3 g4 => ?_))
        have f4 : fz 147 157 m m4 := fz_trans f3 (fz_mono g4)
        rw [← hn] at g1 g3
        have v1 := rd_cwf G c1
        have v2 := rd_cwf H c2
        rw [← hn] at v2
        refine b_X9_toldApart_58 hx hy (k_alike a_147 a_152 (by omega) h7 (pC_fz e1 g4 (by omega)) g1 v1 v2 (fun v hv => by rw [fz_2 g4 (by omega)]; exact e3 v hv) (fun v hv => g3 v hv) (fun v _ => sg_63 h7 (by omega)) (fun v _ => sg_63 hH.2.1.2 (by omega)) (fun z => ?_) (fun z => ?_))
        · have hsl := (alike_iff hG hH hn d1 d2 d3).mpr z
          have et2 : tld G H (k + 1) c1 c2 q r = if q < rq G c1 then tld G H k (rd G c1) (rd H c2) (rq G c1) (r + 1) else -2 := if_pos hsl
          by_cases hlt : q < rq G c1
          · rw [if_pos hlt]
            refine b_X9_toldApart_70 hx hy ⟨fun _ => ⟨fun _ => ?_, fun w => absurd w (by decide)⟩, fun w => absurd w (by decide)⟩
            rw [nI_1]
            rw [if_pos hlt] at et2
            exact ih (r + 1) _ _ _ m4 (by omega) v1 (by rw [z.1]; exact v2) (fun j hj => (z.2 j hj).2) (pC_fz e1 g4 (by omega)) (by rw [z.1]; exact g1) f4 (d7.trans et2)
          · rw [if_neg hlt]
            refine b_X9_toldApart_70 hx hy ⟨fun _ => ⟨fun w => absurd rfl w, fun _ => ?_⟩, fun w => absurd w (by decide)⟩
            rw [if_neg hlt] at et2
            have := K m4 f4
            rw [d7, et2] at this
            exact this
        · have hsl : ¬ slk G H c1 c2 := fun w => z ((alike_iff hG hH hn d1 d2 d3).mp w)
          refine b_X9_toldApart_70 hx hy ⟨fun w => absurd rfl w, fun _ => ?_⟩
          have et2 : tld G H (k + 1) c1 c2 q r = nI r := if_neg hsl
          have := K m4 f4
          rw [d7, et2] at this
          exact this
    exact key 7 1 _ _ _ m2 rfl w1 (by rw [z.1]; exact w2) (fun j hj => (z.2 j hj).2) (pC_fz a1 b4 (by omega)) (by rw [z.1]; exact b1) f2 et
  · have hcl : ¬ clk G H := fun w => z ((alike0_iff hG hH hn).mp w)
    have et : told G H = 0 := by unfold told; rw [if_neg hcl]
    refine b_X9_toldApart_27 hx hy ⟨fun w => absurd rfl w, fun _ => ?_⟩
    have := K m2 f2
    rw [et] at this
    exact this
theorem k_cellsWith {x set : Nat} {G : Gr} (hx : sX1 x) (he : 4 ≤ e) (hG : gWF G) (hg : pG m x G) (hC : pC m 152 (gn G) (st G).1 (st G).2.1) (hset : set < 2 ^ 31) (dx : x + 15 ≤ 147 ∨ 157 ≤ x) (K : ∀ m', fz 147 152 m m' → Q (some (.int (nI (bsq G set)))) (mk m')) : Ok g gr e mX9_cellsWith 0 0 [.ref 1, .ref x, .int (nI set)] (mk m) Q := by
  obtain ⟨d, rfl⟩ := dn he
  have h7 := hG.2.1.2
  have hq := cwf_le (st_cwf hG)
  refine b_X9_cellsWith_0 hx ?_
  intro m1 e1 m2 e2
  refine up_to (n := gn G) (P := fun v => ∀ m', pC m' 147 (gn G) (bss G set v).1 (bss G set v).2 → fz 147 152 m m' → WP g gr (d + 4) mX9_cellsWith 0 0 13 [.ref 1, .ref x, .int (nI set), .int (nI v)] [] (mk m') Q) ?_ ?_ 0 (Nat.zero_le _) _ ⟨?_, fun j hj => ?_⟩ (fz_trans (fz_eI e1) (fz_trans (fz_eI e2) fz_wC))
  · intro m' a1 a2
    have px := pG_fz hg a2 (by omega)
    have hb := bss_cwf hG set (gn G) (Nat.le_refl _)
    have hb1 : 1 ≤ (bss G set (gn G)).2 := by have := hb.1 0 (by have := hG.2.1.1; omega); omega
    refine b_X9_cellsWith_13 hx (pk_le (gn G) (gn G) (fun _ => ?_) (fun z => absurd z (Nat.lt_irrefl _)) px.1)
    refine k_refine a_147 hx (by omega) hG px (by omega) hb hb1 a1 (fun m3 b1 b2 b3 => ?_)
    refine b_X9_cellsWith_51 ?_
    rw [b1.1]
    exact K m3 (fz_trans a2 (fz_mono b3))
  · intro v hv ih m' a1 a2
    have px := pG_fz hg a2 (by omega)
    have hb := bss_cwf hG set v (by omega)
    refine b_X9_cellsWith_13 hx (pk_le (gn G) v (fun z => by omega) (fun _ => ?_) px.1)
    rw [i_in hset (by omega), nI_1]
    refine ⟨fun z => ?_, fun z => ?_⟩
    · refine k_putAhead a_147 (by omega) h7 a1 hb hv (fun m3 b1 b2 b3 => ?_)
      refine b_X9_cellsWith_37 hx ?_
      rw [nI_1]
      rw [bss_y z] at ih
      exact ih m3 b1 (fz_trans a2 (fz_mono b3))
    · rw [bss_n z] at ih
      exact ih m' a1 a2
  · rw [wC_1, if_neg (by omega), e2, rI_n (by omega), e1, rI_s]; exact hC.1
  · have hj : j < (st G).2.1 := hj
    rw [wC_1, if_pos ⟨rfl, by omega⟩, e2, rI_n (by omega), e1, rI_n (by omega)]; exact hC.2 j hj
end ZHe
