/-! the model's search: leafs, cuts, the way, all of it -/
def pXS (m : zm) (n : Nat) (s : SS) : Prop := m.1 810 30 = nI (S_n s) ∧ m.1 810 31 = nI (S_l s) ∧ m.1 810 40 = nI (S_c s) ∧ m.1 810 41 = nI (S_k s) ∧ m.1 810 42 = nI (S_b s) ∧ m.1 810 49 = nI (S_g s).length ∧ rowL (m.1 833) (S_g s) ∧ (S_l s = 0 → m.1 810 44 = -1 ∧ m.1 810 35 = -1) ∧ (S_l s ≠ 0 → pB1 m n (S_f s) ∧ pB m n (S_t s))
theorem rowL_cong {f f' : Nat → Int32} {L : List Nat} (h : rowL f L) (e : f' = f) : rowL f' L := by rw [e]; exact h
theorem pXS_fM {F A : List Nat} {m m' : zm} {n : Nat} {s : SS} (h : pXS m n s) (f : fM F A m m') (h1 : 825 ∉ A ∧ 826 ∉ A ∧ 827 ∉ A ∧ 830 ∉ A ∧ 831 ∉ A ∧ 832 ∉ A ∧ 833 ∉ A := by decide) (h4 : 30 ∉ F ∧ 31 ∉ F ∧ 40 ∉ F ∧ 41 ∉ F ∧ 42 ∉ F ∧ 49 ∉ F ∧ 44 ∉ F ∧ 35 ∉ F := by decide) : pXS m' n s := by
  obtain ⟨a1, a2, a3, a4, a5, a6, a7, a8, a9⟩ := h
  obtain ⟨x1, x2, x3, x4, x5, x6, x7⟩ := h1
  obtain ⟨y1, y2, y3, y4, y5, y6, y7, y8⟩ := h4
  exact ⟨by rw [fM_2 f y1]; exact a1, by rw [fM_2 f y2]; exact a2, by rw [fM_2 f y3]; exact a3, by rw [fM_2 f y4]; exact a4, by rw [fM_2 f y5]; exact a5, by rw [fM_2 f y6]; exact a6, rowL_cong a7 (f.1 833 (by decide) x7), fun z => ⟨by rw [fM_2 f y7]; exact (a8 z).1, by rw [fM_2 f y8]; exact (a8 z).2⟩, fun z => ⟨pB1_fM (a9 z).1 f x4 x5 x6 y7, pB_fM (a9 z).2 f x1 x2 x3 y8⟩⟩
def fS (d : Nat) (m m' : zm) : Prop := fM [25, 30, 31, 35, 40, 41, 42, 44, 49] [819, 820, 821, 822, 823, 824, 825, 826, 827, 829, 830, 831, 832, 833] m m' ∧ (∀ i, i < 7 * d → m'.1 822 i = m.1 822 i) ∧ (∀ i, i ≤ d → m'.1 823 i = m.1 823 i) ∧ ∀ i, i < d → m'.1 829 i = m.1 829 i
theorem fS_refl (d : Nat) (m : zm) : fS d m m := ⟨fM_refl _ _ _, fun _ _ => rfl, fun _ _ => rfl, fun _ _ => rfl⟩
theorem fS_trans {d : Nat} {m m' m'' : zm} (h1 : fS d m m') (h2 : fS d m' m'') : fS d m m'' := ⟨fM_trans h1.1 h2.1, fun i h => (h2.2.1 i h).trans (h1.2.1 i h), fun i h => (h2.2.2.1 i h).trans (h1.2.2.1 i h), fun i h => (h2.2.2.2 i h).trans (h1.2.2.2 i h)⟩
theorem fS_mono {d d' : Nat} {m m' : zm} (h : fS d' m m') (hd : d ≤ d') : fS d m m' := ⟨h.1, fun i hi => h.2.1 i (by omega), fun i hi => h.2.2.1 i (by omega), fun i hi => h.2.2.2 i (by omega)⟩
theorem fS_fM {F A : List Nat} {d : Nat} {m m' : zm} (f : fM F A m m') (h1 : 822 ∉ A := by decide) (h2 : 823 ∉ A := by decide) (h5 : 829 ∉ A := by decide) (h3 : ∀ k ∈ F, k ∈ [25, 30, 31, 35, 40, 41, 42, 44, 49] := by decide) (h4 : ∀ k ∈ A, k ∈ [819, 820, 821, 822, 823, 824, 825, 826, 827, 829, 830, 831, 832, 833] := by decide) : fS d m m' := ⟨fM_mono f h3 h4, fun i _ => fM_1 f i (by decide) h1, fun i _ => fM_1 f i (by decide) h2, fun i _ => fM_1 f i (by decide) h5⟩
theorem nI_m1 : ∀ t, t < 8 → ¬ nI t = -1 := by decide +kernel
section ZMo
variable {g : zG} {gr : Bool}
theorem d_comesToLeaf {G : Gr} {c ms : Nat → Nat} {q d e : Nat} {s : SS} {m : zm} {Q : Option Value → zH → Prop} (he : 3 ≤ e) (hG : gWF G) (hp : pD m G) (hE : pE m (gn G) c q) (hc : cwf (gn G) c q) (h0 : tg c (gn G) q = 0) (hms : ∀ i, i ≤ d → m.1 823 i = nI (ms i)) (hl : lmk (gn G) (mkl G c d ms)) (hsf : sft G s) (hsg : sgo s) (hb : S_l s + 1 ≤ 5040) (hss : pXS m (gn G) s)
    (K : ∀ m', pXS m' (gn G) (sl (gn G) (mkl G c d ms) s) → fM [31, 35, 42, 44, 49] [824, 825, 826, 827, 830, 831, 832, 833] m m' → Q none (mk m')) : Ok g gr e mX10_comesToLeaf 0 0 [.ref 810, .int (nI d)] (mk m) Q := by
  obtain ⟨x, rfl⟩ : ∃ x, e = x + 3 := ⟨e - 3, by omega⟩
  have h7 := hG.2.1.2
  obtain ⟨s30, s31, s40, s41, s42, s49, s33, sE, sN⟩ := hss
  have hd6 : d ≤ 6 := hl.1
  let l : Lf := mkl G c d ms
  have hlc : lcd (gn G) l := lcd_cd hG.1 _ _ _
  refine b_X10_comesToLeaf_0 (d := x + 1) ?_
  intro m1 e1
  rw [s31, nI_1] at e1
  have f1 : fM [31] [] m m1 := by rw [e1]; exact fM_f
  have r31 : m1.1 810 31 = nI (S_l s + 1) := by rw [e1]; exact rI_s
  refine d_laysCode (by omega) hG (pD_fM hp f1) (pE_fM hE f1) hc h0 (fun m2 b1 b2 => ?_)
  have f2 : fM [31] [824] m m2 := fM_trans (fM_mono f1) (fM_mono b2)
  have n2 : m2.1 810 21 = nI (gn G) := by rw [fM_2 f2]; exact hp.1
  have hE2 := pE_fM hE f2
  have hms2 : ∀ i, i ≤ d → m2.1 823 i = nI (ms i) := fun i hi => by rw [fM_1 f2]; exact hms i hi
  have x30 : m2.1 810 30 = nI (S_n s) := by rw [fM_2 f2]; exact s30
  have x31 : m2.1 810 31 = nI (S_l s + 1) := by rw [fM_2 b2]; exact r31
  have x40 : m2.1 810 40 = nI (S_c s) := by rw [fM_2 f2]; exact s40
  have x41 : m2.1 810 41 = nI (S_k s) := by rw [fM_2 f2]; exact s41
  have x42 : m2.1 810 42 = nI (S_b s) := by rw [fM_2 f2]; exact s42
  have x49 : m2.1 810 49 = nI (S_g s).length := by rw [fM_2 f2]; exact s49
  have x33 : rowL (m2.1 833) (S_g s) := rowL_cong s33 (f2.1 833 (by decide) (by decide))
  have ne1 : ∀ P : Prop, S_l s + 1 = 0 → P := fun P w => absurd w (by omega)
  by_cases hl0 : S_l s = 0
  · have h44 : m2.1 810 44 = -1 := by rw [fM_2 f2]; exact (sE hl0).1
    refine b_X10_comesToLeaf_14 ⟨fun w => absurd h44 w, fun _ => ?_⟩
    refine d_isFirst (l := l) (by omega) h7 n2 hE2 hc h0 hd6 hms2 b1 rfl (fun m3 g1 g2 => ?_)
    refine b_X10_comesToLeaf_27 ?_
    refine d_isBest (l := l) (by omega) h7 (by rw [fM_2 g2]; exact n2) (pE_fM hE2 g2) hc h0 hd6 (fun i hi => by rw [fM_1 g2]; exact hms2 i hi) (fun i hi => by rw [fM_1 g2]; exact b1 i hi) rfl (fun m4 i1 i2 => ?_)
    have f24 : fM [35, 44] [825, 826, 827, 830, 831, 832] m2 m4 := fM_trans (fM_mono g2) (fM_mono i2)
    refine b_X10_comesToLeaf_32 ?_
    rw [fM_2 f24, x42, nI_1]
    have f5 : fM [42] [] m4 (wI m4 810 42 (nI (S_b s + 1))) := fM_f
    have f25 : fM [35, 42, 44] [825, 826, 827, 830, 831, 832] m2 (wI m4 810 42 (nI (S_b s + 1))) := fM_trans (fM_mono f24) (fM_mono f5)
    refine K _ ?_ (fM_trans (fM_mono f2) (fM_mono f25))
    unfold sl
    rw [if_pos hl0]
    refine ⟨by rw [fM_2 f25]; exact x30, by rw [fM_2 f25]; rw [x31, hl0], by rw [fM_2 f25]; exact x40, by rw [fM_2 f25]; exact x41, rI_s, by rw [fM_2 f25]; exact x49, rowL_cong x33 (f25.1 833 (by decide) (by decide)), fun w => absurd w (by show (1 : Nat) ≠ 0; decide), fun _ => ⟨pB1_fM (pB1_fM g1 i2) f5, pB_fM i1 f5⟩⟩
  · obtain ⟨⟨t1, t2⟩, t3, t4, t5, t6⟩ := hsf.1 hl0
    have hlen : (S_g s).length < 5040 := by have := hsg.2 hl0; omega
    obtain ⟨hF, hB⟩ := sN hl0
    have hF2 := pB1_fM hF f2
    have hB2 := pB_fM hB f2
    have hn1 : ¬ m2.1 810 44 = -1 := by rw [hF2.1]; exact nI_m1 _ (by have := t1.1; omega)
    have a7 : ∀ f : Lf, pe (gn G) (l_a f) → ∀ j, j < gn G → l_a f j < 7 := fun f hf j hj => by have := hf.1 j hj; omega
    have gen : ∀ (Q' : Option Value → zH → Prop) (r : Nat) (f : Lf), (r = 832 ∨ r = 827) → (∀ j, j < gn G → m2.1 r j = nI (l_a f j)) → pe (gn G) (l_a f) → (∀ m', pXS m' (gn G) (S_n s, S_l s + 1, S_c s, S_k s, S_b s, S_g s ++ [gnum (l_a l) (l_a f) (gn G)], S_f s, S_t s) → fM [31, 35, 42, 44, 49] [824, 825, 826, 827, 830, 831, 832, 833] m m' → Q' none (mk m')) → Ok g gr (x + 2) mX10_generates 0 0 [.ref 810, .ref r] (mk m2) Q' := fun Q' r f hr hf hfa HH => by
      refine d_generates hr (by omega) h7 n2 hE2 hc h0 hf (a7 f hfa) x49 x33 hlen (fun m3 g1 g2 g3 => HH m3 ?_ (fM_trans (fM_mono f2) (fM_mono g3)))
      exact ⟨by rw [fM_2 g3]; exact x30, by rw [fM_2 g3]; exact x31, by rw [fM_2 g3]; exact x40, by rw [fM_2 g3]; exact x41, by rw [fM_2 g3]; exact x42, g1, g2, ne1 _, fun _ => ⟨pB1_fM hF2 g3, pB_fM hB2 g3⟩⟩
    refine b_X10_comesToLeaf_14 ⟨fun _ => ?_, fun w => absurd w hn1⟩
    refine d_isLikeFirst (l := l) (by omega) h7 n2 hms2 b1 hF2 hl t1 hlc t2 (fun hk => ?_) (fun hk => ?_)
    · refine b_X10_comesToLeaf_48 ⟨fun w => absurd w (by decide), fun _ => ?_⟩
      refine gen _ 832 (S_f s) (Or.inl rfl) hF2.2.2.2 t5 (fun m' a1 a2 => ?_)
      refine b_X10_comesToLeaf_59 (K m' ?_ a2)
      unfold sl
      rw [if_neg hl0, if_pos (show ky (mkl G c d ms) = ky (S_f s) from hk)]
      exact a1
    · refine b_X10_comesToLeaf_48 ⟨fun _ => ?_, fun w => absurd rfl w⟩
      refine d_comparesBest (l := l) (by omega) h7 n2 rfl hms2 b1 hB2 hl t3 hlc t4 (fun r r1 r2 => ?_)
      have r1 : r < 0 ↔ ky (mkl G c d ms) < ky (S_t s) := r1
      have r2 : r = 0 ↔ ky (mkl G c d ms) = ky (S_t s) := r2
      have hk : ¬ ky (mkl G c d ms) = ky (S_f s) := hk
      refine b_X10_comesToLeaf_65 ⟨fun w => ⟨fun w2 => ?_, fun w2 => ?_⟩, fun w => ?_⟩
      · have n1 : ¬ ky (mkl G c d ms) < ky (S_t s) := fun v => (Int32.not_lt.mpr w2) (r1.mpr v)
        have n2' : ¬ ky (mkl G c d ms) = ky (S_t s) := fun v => w (r2.mpr v)
        refine K m2 ?_ (fM_mono f2)
        unfold sl
        rw [if_neg hl0, if_neg hk, if_neg n1, if_neg n2']
        exact ⟨x30, x31, x40, x41, x42, x49, x33, ne1 _, fun _ => ⟨hF2, hB2⟩⟩
      · have n1 : ky (mkl G c d ms) < ky (S_t s) := r1.mp (Int32.not_le.mp w2)
        refine d_isBest (l := l) (by omega) h7 n2 hE2 hc h0 hd6 hms2 b1 rfl (fun m4 i1 i2 => ?_)
        refine b_X10_comesToLeaf_90 ?_
        rw [fM_2 i2, x42, nI_1]
        have f5 : fM [42] [] m4 (wI m4 810 42 (nI (S_b s + 1))) := fM_f
        have f25 : fM [35, 42] [825, 826, 827] m2 (wI m4 810 42 (nI (S_b s + 1))) := fM_trans (fM_mono i2) (fM_mono f5)
        refine K _ ?_ (fM_trans (fM_mono f2) (fM_mono f25))
        unfold sl
        rw [if_neg hl0, if_neg hk, if_pos n1]
        exact ⟨by rw [fM_2 f25]; exact x30, by rw [fM_2 f25]; exact x31, by rw [fM_2 f25]; exact x40, by rw [fM_2 f25]; exact x41, rI_s, by rw [fM_2 f25]; exact x49, rowL_cong x33 (f25.1 833 (by decide) (by decide)), ne1 _, fun _ => ⟨pB1_fM hF2 f25, pB_fM i1 f5⟩⟩
      · have n2' := r2.mp w
        refine gen _ 827 (S_t s) (Or.inr rfl) hB2.2.2.2 t6 (fun m' a1 a2 => ?_)
        refine b_X10_comesToLeaf_78 (K m' ?_ a2)
        unfold sl
        rw [if_neg hl0, if_neg hk, if_neg (show ¬ ky (mkl G c d ms) < ky (S_t s) by omega), if_pos n2']
        exact a1
theorem d_isCut {n t e : Nat} {s : SS} {ms : Nat → Nat} {m : zm} {Q : Option Value → zH → Prop} (he : 1 ≤ e) (hp : pXS m n s) (ht : t ≤ 7) (hms : ∀ i, i ≤ t → m.1 823 i = nI (ms i)) (hb : ∀ i, ms i < 100000000) (hs : S_l s ≠ 0 → lmk n (S_t s)) (H1 : cutc s ms t = true → Q (some (.int 1)) (mk m)) (H0 : cutc s ms t = false → Q (some (.int 0)) (mk m)) : Ok g gr e mX10_isCut 0 0 [.ref 810, .int (nI t)] (mk m) Q := by
  obtain ⟨d, rfl⟩ := dn he
  obtain ⟨-, -, -, -, -, -, -, sE, sN⟩ := hp
  by_cases hl0 : S_l s = 0
  · refine b_X10_isCut_0 ⟨fun _ => H0 ?_, fun w => absurd (sE hl0).2 w⟩
    unfold cutc
    rw [bq_t hl0]; rfl
  · have hB := (sN hl0).2
    have hm := hs hl0
    have hd := hm.1
    have hn1 : ¬ m.1 810 35 = -1 := by rw [hB.1]; exact nI_m1 _ (by omega)
    refine b_X10_isCut_0 ⟨fun w => absurd w hn1, fun _ => pk_le t (l_d (S_t s)) (fun w => ?_) (fun w => H0 ?_) rfl hB.1⟩
    · refine d_compares (i := 0) (j := 0) (B := 100000000) (f := ms) (h := l_m (S_t s)) a_823 a_825 (by omega) (by omega) (by decide) (by decide) (by decide) (fun k hk => ⟨by rw [Nat.zero_add]; exact hms k (by omega), hb k⟩) (fun k hk => ⟨by rw [Nat.zero_add]; exact hB.2.1 k (by omega), hm.2.2.2.2 k⟩) (fun r r1 r2 => ?_)
      refine b_X10_isCut_32 ⟨fun z => H0 ?_, fun z => ⟨pk_in t 8 (by omega), ?_⟩⟩
      · have : 0 < fb_ct (fun i => !(ms i == l_m (S_t s) i)) t := by
          apply fb_ct_pos.mpr
          apply Classical.byContradiction
          intro hno
          refine z (r2.mpr (nm_cong fun i hi => Classical.byContradiction fun y => hno ⟨i, hi, by rw [bq_f y]; rfl⟩))
        unfold cutc
        rw [bq_f (show fb_ct (fun i => !(ms i == l_m (S_t s) i)) t ≠ 0 by omega)]
        simp
      · have heq := nm_inj (fun i _ => hb i) (fun i _ => hm.2.2.2.2 i) (r2.mp z)
        have e0 : fb_ct (fun i => !(ms i == l_m (S_t s) i)) t = 0 := ct_0 fun i hi => by rw [bq_t (heq i hi)]; rfl
        have d1 := hb t
        have d2 := hm.2.2.2.2 t
        rw [nI_clamp (show t < 2 ^ 31 by omega), hms t (Nat.le_refl _), hB.2.1 t w]
        refine pk_le (ms t) (l_m (S_t s) t) (fun y => H0 ?_) (fun y => H1 ?_)
        · unfold cutc
          rw [decide_eq_false (show ¬ l_m (S_t s) t < ms t by omega)]
          simp
        · unfold cutc
          rw [decide_eq_true y, e0, decide_eq_true w, bq_f hl0]
          rfl
    · unfold cutc
      rw [decide_eq_false (show ¬ t ≤ l_d (S_t s) by omega)]
      simp
theorem d_searches {G : Gr} (hG : gWF G) : ∀ (k e : Nat) (c : Nat → Nat) (q d : Nat) (ms : Nat → Nat) (apb : Nat) (s : SS) (m : zm) (Q : Option Value → zH → Prop), gn G ≤ k + d → k + 4 ≤ e → nod G c q d ms apb → ptw m (gn G) d apb → sft G s → sgo s → S_l (sw G k c q d ms apb s) ≤ 5040 → pD m G → pE m (gn G) c q → (∀ i, i ≤ d → m.1 823 i = nI (ms i)) → pXS m (gn G) s →
    (∀ m', pXS m' (gn G) (sw G k c q d ms apb s) → fS d m m' → Q none (mk m')) → Ok g gr e mX10_searches 0 0 [.ref 810, .int (nI d)] (mk m) Q := by
  have h7 := hG.2.1.2
  intro k
  induction k with
  | zero =>
    intro e c q d ms apb s m Q h1 h2 hi
    have := nod_d hG hi
    omega
  | succ k ih =>
    intro e c q d ms apb s m Q h1 h2 hi hap hsf hsg hb hp hE hms hss H
    obtain ⟨x, rfl⟩ : ∃ x, e = x + 4 := ⟨e - 4, by omega⟩
    have hd := nod_d hG hi
    have hcw := hi.1.1
    have hc8 : ∀ v, v < gn G → c v < 8 := fun v hv => by have := hcw.1 v hv; omega
    refine b_X10_searches_0 ?_
    intro m1 e1
    rw [hss.1, nI_1] at e1
    have f1 : fM [30] [] m m1 := by rw [e1]; exact fM_f
    have hp1 := pD_fM hp f1
    have hE1 := pE_fM hE f1
    have hms1 : ∀ i, i ≤ d → m1.1 823 i = nI (ms i) := fun i hi2 => by rw [fM_1 f1]; exact hms i hi2
    have hss1 : pXS m1 (gn G) (ss_n s) := by
      obtain ⟨a1, a2, a3, a4, a5, a6, a7, a8, a9⟩ := hss
      exact ⟨by rw [e1]; exact rI_s, by rw [fM_2 f1]; exact a2, by rw [fM_2 f1]; exact a3, by rw [fM_2 f1]; exact a4, by rw [fM_2 f1]; exact a5, by rw [fM_2 f1]; exact a6, rowL_cong a7 (f1.1 833 (by decide) (by decide)), fun z => ⟨by rw [fM_2 f1]; exact (a8 z).1, by rw [fM_2 f1]; exact (a8 z).2⟩, fun z => ⟨pB1_fM (a9 z).1 f1, pB_fM (a9 z).2 f1⟩⟩
    refine d_targetCell (by omega) h7 hp1.1 hE1 hcw ?_
    have htl := tg_le c (gn G) q
    refine b_X10_searches_14 ⟨fun z => ?_, fun z => ?_⟩
    · have h0 : tg c (gn G) q ≠ 0 := fun w => z ((tgv_0 (by omega)).mpr w)
      have hqn : q < gn G := by
        rcases Nat.lt_or_ge q (gn G) with w | w
        · exact w
        · have : q = gn G := by omega
          rw [this] at hcw h0
          exact absurd (tg_full hcw) h0
      rw [tgv_n h0]
      refine d_setOf h7 hp1.1 hE1 hc8 (by omega) ?_
      refine b_X10_searches_31 ?_
      rw [hE1.2]
      refine d_saves h7 hp1.1 hd.2.2 hE1 (fun m2 s1 s2 s3 => ?_)
      refine b_X10_searches_46 ?_
      have fS2 : fS d m m2 := fS_trans (fS_fM f1) ⟨fM_mono s3, s2, fun i _ => fM_1 s3 i, fun i _ => fM_1 s3 i⟩
      rw [sw_succ, if_neg h0] at hb
      let B := swb G k c q d ms apb
      refine up_to (n := gn G) (P := fun v => ∀ m', pXS m' (gn G) (it B v (0, ss_n s)).2 → (it B v (0, ss_n s)).1 < 128 → sft G (it B v (0, ss_n s)).2 → sgo (it B v (0, ss_n s)).2 → pE m' (gn G) c q → (∀ v, v < gn G → m'.1 822 (7 * d + v) = nI (c v)) → fS d m m' → WP g gr (x + 4) mX10_searches 0 0 49 [.ref 810, .int (nI d), .retAddr 0, .int (nI (bm (fun v => c v == tg c (gn G) q - 1) (gn G))), .int (nI q), .int (nI (it B v (0, ss_n s)).1), .int (nI v)] [] (mk m') Q) ?_ ?_ 0 (Nat.zero_le _) m2 (pXS_fM hss1 s3) (by show (0 : Nat) < 128; decide) hsf hsg (pE_fM hE1 s3) s1 fS2
      · intro m' a1 _ _ _ a3 a4 a5
        have hp' := pD_fM hp a5.1
        refine b_X10_searches_49 (pk_le (gn G) (gn G) (fun _ => H m' ?_ a5) (fun w => absurd w (Nat.lt_irrefl _)) hp'.1)
        rw [sw_succ, if_neg h0]
        exact a1
      · intro v hv ihv m' a1 a2 hsf' hsg' a3 a4 a5
        have hp' := pD_fM hp a5.1
        have ev : it B (v + 1) (0, ss_n s) = B v (it B v (0, ss_n s)) := rfl
        have hbv : S_l (it B (v + 1) (0, ss_n s)).2 ≤ 5040 := by
          have := it_mono hG (k := k) hi h0 (0, ss_n s) (gn G - (v + 1)) (v + 1) (by omega)
          rw [show v + 1 + (gn G - (v + 1)) = gn G by omega] at this
          exact Nat.le_trans this hb
        rw [ev] at ihv hbv
        generalize hx : it B v (0, ss_n s) = y at *
        have hsl7 : S_l y.2 ≤ 5040 := by
          have m1 := swb_mono hG (k := k) hi h0 hv y
          have m2 : S_l (swb G k c q d ms apb v y).2 ≤ 5040 := hbv
          omega
        have hglen : (S_g y.2).length ≤ 5040 := by
          by_cases w : S_l y.2 = 0
          · rw [hsg'.1 w]; exact Nat.zero_le _
          · have := hsg'.2 w; omega
        refine b_X10_searches_49 (pk_le (gn G) v (fun w => by omega) (fun _ => ?_) hp'.1)
        rw [i_has (bm_31 (by omega)) (by omega), bm_bit, decide_eq_true hv, Bool.true_and, nI_1]
        refine ⟨fun hin => ?_, fun hin => ?_⟩
        · have hcv : c v + 1 = tg c (gn G) q := by have := eq_of_beq hin; omega
          have hcz := cz_tg h0 hcv
          refine d_comesTo (by omega) h7 hp'.1 (by omega) (by omega) a1.2.2.2.2.2.1 a1.2.2.2.2.2.2.1 hglen hsf'.2 (by omega) (ptw_cong hap a5.2.2.2) (fun hs1 => ?_) (fun hs0 => ?_)
          · refine b_X10_searches_79 ⟨fun w => absurd w (by decide), fun _ => ?_⟩
            have eB : B v y = (y.1, ss_k y.2) := swb_y hcv hs1
            rw [eB] at ihv
            rw [a1.2.2.2.1, nI_1, nI_1]
            have f5 : fM [41] [] m' (wI m' 810 41 (nI (S_k y.2 + 1))) := fM_f
            refine ihv _ ?_ a2 hsf' hsg' (pE_fM a3 f5) (fun u hu => by rw [fM_1 f5]; exact a4 u hu) (fS_trans a5 (fS_fM f5))
            obtain ⟨b1, b2, b3, b4, b5, b6, b7, b8, b9⟩ := a1
            exact ⟨by rw [fM_2 f5]; exact b1, by rw [fM_2 f5]; exact b2, by rw [fM_2 f5]; exact b3, rI_s, by rw [fM_2 f5]; exact b5, by rw [fM_2 f5]; exact b6, rowL_cong b7 (f5.1 833 (by decide) (by decide)), fun z => ⟨by rw [fM_2 f5]; exact (b8 z).1, by rw [fM_2 f5]; exact (b8 z).2⟩, fun z => ⟨pB1_fM (b9 z).1 f5, pB_fM (b9 z).2 f5⟩⟩
          · have hs0' : ¬ (cl (gn G) apb (S_g y.2) 7 y.1).testBit v = true := by rw [hs0]; decide
            refine b_X10_searches_79 ⟨fun _ => ⟨pk_in d 8 (by omega), ?_⟩, fun w => absurd rfl w⟩
            rw [nI_clamp (show d < 2 ^ 31 by omega), i_sh1 (by omega), fa_or]
            intro m2' e2'
            have g2 : fM [] [829] m' m2' := by rw [e2']; exact fM_r
            have hap2 : ptw m2' (gn G) (d + 1) (apb ||| 2 ^ v) := ptw_put (ptw_cong hap a5.2.2.2) hv (fun i hi2 => by rw [e2', rI_n (by omega)]) (by rw [e2', rI_s])
            refine d_setsApart h7 (pD_fM hp' g2).1 (pE_fM a3 g2) hc8 hv (fun m3 b1 b2 => ?_)
            refine b_X10_searches_118 ?_
            rw [nI_1]
            have hp3 := pD_fM (pD_fM hp' g2) b2
            refine d_refines (by omega) hG hp3 b1 (ap_cwf hcw hv hcz) (by omega) (fun m4 c1 c2 => ?_)
            have hp4 := pD_fM hp3 c2
            obtain ⟨n1, n2, n3, n4, n5⟩ := nx_all hG hcw hv h0 hcv
            refine b_X10_searches_130 ?_
            refine d_markOf (by omega) h7 hp4.1 c1 n1 ?_
            have fm4 : fM [25] [819, 820, 821, 829] m' m4 := fM_trans (fM_mono g2) (fM_trans (fM_mono b2) (fM_mono c2))
            refine b_X10_searches_133 ⟨pk_in (d + 1) 8 (by omega), ?_⟩
            rw [nI_clamp (show d + 1 < 2 ^ 31 by omega)]
            intro m5 e5
            have f5 : fM [] [823] m4 m5 := by rw [e5]; exact fM_r
            have hnod := nod_nx hG hi hv h0 hcv
            have fm5 : fM [25] [819, 820, 821, 823, 829] m' m5 := fM_trans (fM_mono fm4) (fM_mono f5)
            have hm5 : ∀ i, i ≤ d + 1 → m5.1 823 i = nI (msn G c q v d ms i) := fun i hi2 => by
              rw [e5]
              unfold msn
              by_cases w : i = d + 1
              · subst w; rw [rI_s, if_pos rfl]; rfl
              · rw [rI_n (fun z => w z.2), if_neg w, fM_1 fm4, a5.2.2.1 i (by omega)]
                exact hms i (by omega)
            have fm25 : fM [25] [819, 820, 821, 823] m2' m5 := fM_trans (fM_mono b2) (fM_trans (fM_mono c2) (fM_mono f5))
            have e829 : ∀ i, m5.1 829 i = m2'.1 829 i := fun i => fM_1 fm25 i
            have fS5 : fS d m' m5 := ⟨fM_mono fm5, fun i _ => fM_1 fm5 i, fun i hi2 => by rw [e5, rI_n (by omega), fM_1 fm4], fun i hi2 => by rw [e829, e2', rI_n (by omega)]⟩
            have hss5 : pXS m5 (gn G) y.2 := pXS_fM a1 fm5
            have hp5 := pD_fM hp' fm5
            have sv5 : ∀ u, u < gn G → m5.1 822 (7 * d + u) = nI (c u) := fun u hu => by rw [fM_1 fm5]; exact a4 u hu
            rw [nI_1]
            refine d_isCut (by omega) hss5 (by omega) hm5 hnod.1.2.2.1 (fun w => (hsf'.1 w).2.1) (fun hct => ?_) (fun hct => ?_)
            · refine b_X10_searches_141 ⟨fun w => absurd w (by decide), fun _ => ?_⟩
              have eB : B v y = (y.1 ||| 2 ^ v, ss_c y.2) := swb_c hcv hs0' hct
              rw [eB] at ihv
              intro m6 e6
              rw [hss5.2.2.1, nI_1] at e6
              have f6 : fM [40] [] m5 m6 := by rw [e6]; exact fM_f
              refine d_comesBack h7 (pD_fM hp5 f6).1 hd.2.2 (fun u hu => by rw [fM_1 f6]; exact sv5 u hu) (fun m7 g3 g4 => ?_)
              refine b_X10_searches_171 ?_
              rw [nI_1]
              refine ihv m7 ?_ (or_7 a2 (by omega)) hsf' hsg' g3 (fun u hu => by rw [fM_1 g4, fM_1 f6]; exact sv5 u hu) (fS_trans a5 (fS_trans fS5 (fS_trans (fS_fM f6) (fS_fM g4))))
              refine pXS_fM ?_ g4
              obtain ⟨b1, b2, b3, b4, b5, b6, b7, b8, b9⟩ := hss5
              exact ⟨by rw [fM_2 f6]; exact b1, by rw [fM_2 f6]; exact b2, by rw [e6]; exact rI_s, by rw [fM_2 f6]; exact b4, by rw [fM_2 f6]; exact b5, by rw [fM_2 f6]; exact b6, rowL_cong b7 (f6.1 833 (by decide) (by decide)), fun z => ⟨by rw [fM_2 f6]; exact (b8 z).1, by rw [fM_2 f6]; exact (b8 z).2⟩, fun z => ⟨pB1_fM (b9 z).1 f6, pB_fM (b9 z).2 f6⟩⟩
            · have hct' : ¬ cutc y.2 (msn G c q v d ms) (d + 1) = true := by rw [hct]; decide
              refine b_X10_searches_141 ⟨fun _ => ?_, fun w => absurd rfl w⟩
              have eB : B v y = (y.1 ||| 2 ^ v, sw G k (nx G c q v).1 (nx G c q v).2.1 (d + 1) (msn G c q v d ms) (apb ||| 2 ^ v) y.2) := swb_r hcv hs0' hct'
              rw [eB] at ihv hbv
              rw [nI_1]
              refine ih (x + 3) _ _ (d + 1) _ (apb ||| 2 ^ v) y.2 m5 _ (by omega) (by omega) hnod (ptw_cong hap2 (fun i _ => e829 i)) hsf' hsg' hbv hp5 (pE_fM c1 f5) hm5 hss5 (fun m6 d1 d2 => ?_)
              refine b_X10_searches_164 ?_
              have hp6 := pD_fM hp5 d2.1
              have sv6 : ∀ v, v < gn G → m6.1 822 (7 * d + v) = nI (c v) := fun u hu => by rw [d2.2.1 _ (by omega)]; exact sv5 u hu
              refine d_comesBack h7 hp6.1 hd.2.2 sv6 (fun m7 g3 g4 => ?_)
              refine b_X10_searches_171 ?_
              rw [nI_1]
              exact ihv m7 (pXS_fM d1 g4) (or_7 a2 (by omega)) (sw_sft hG hnod hsf') (sw_sgo hG hnod hsg') g3 (fun u hu => by rw [fM_1 g4]; exact sv6 u hu) (fS_trans a5 (fS_trans fS5 (fS_trans (fS_mono d2 (by omega)) (fS_fM g4))))
        · have eB : B v y = y := swb_n (fun w => hin (bq_t (show c v = tg c (gn G) q - 1 by omega)))
          rw [eB] at ihv
          exact ihv m' a1 a2 hsf' hsg' a3 a4 a5
    · have h0 : tg c (gn G) q = 0 := (tgv_0 (by omega)).mp z
      rw [sw_succ, if_pos h0] at hb H
      rw [sl_l] at hb
      refine d_comesToLeaf (s := ss_n s) (by omega) hG hp1 hE1 hcw h0 hms1 (lmk_mkl hG hi h0) hsf hsg hb hss1 (fun m2 a1 a2 => ?_)
      exact b_X10_searches_25 (H m2 a1 (fS_trans (fS_fM f1) (fS_fM a2)))
theorem d_searchesAll {G : Gr} {e : Nat} {m : zm} {Q : Option Value → zH → Prop} (he : 13 ≤ e) (hG : gWF G) (hp : pD m G) (K : ∀ m', pXS m' (gn G) (srch G) → fM [25, 30, 31, 35, 40, 41, 42, 44, 49] [819, 820, 821, 822, 823, 824, 825, 826, 827, 829, 830, 831, 832, 833] m m' → Q none (mk m')) : Ok g gr e mX10_searchesAll 0 0 [.ref 810] (mk m) Q := by
  obtain ⟨d, rfl⟩ := dn he
  have h7 := hG.2.1.2
  refine b_X10_searchesAll_0 ?_
  intro m1 e1 m2 e2 m3 e3 m4 e4 m5 e5 m6 e6 m7 e7 m8 e8
  have f1 : fM [30, 31, 35, 40, 41, 42, 44, 49] [] m m1 := by rw [e1]; exact fM_f
  have f2 : fM [30, 31, 35, 40, 41, 42, 44, 49] [] m1 m2 := by rw [e2]; exact fM_f
  have f3 : fM [30, 31, 35, 40, 41, 42, 44, 49] [] m2 m3 := by rw [e3]; exact fM_f
  have f4 : fM [30, 31, 35, 40, 41, 42, 44, 49] [] m3 m4 := by rw [e4]; exact fM_f
  have f5 : fM [30, 31, 35, 40, 41, 42, 44, 49] [] m4 m5 := by rw [e5]; exact fM_f
  have f6 : fM [30, 31, 35, 40, 41, 42, 44, 49] [] m5 m6 := by rw [e6]; exact fM_f
  have f7 : fM [30, 31, 35, 40, 41, 42, 44, 49] [] m6 m7 := by rw [e7]; exact fM_f
  have f8 : fM [30, 31, 35, 40, 41, 42, 44, 49] [] m7 m8 := by rw [e8]; exact fM_f
  have f18 := fM_trans f1 (fM_trans f2 (fM_trans f3 (fM_trans f4 (fM_trans f5 (fM_trans f6 (fM_trans f7 f8))))))
  have hx8 : pXS m8 (gn G) ss0 := by
    refine ⟨?_, ?_, ?_, ?_, ?_, ?_, fun i hi => absurd hi (Nat.not_lt_zero _), fun _ => ⟨?_, ?_⟩, fun w => absurd rfl w⟩
    · rw [e8, rI_n (by omega), e7, rI_n (by omega), e6, rI_n (by omega), e5, rI_n (by omega), e4, rI_n (by omega), e3, rI_n (by omega), e2, rI_n (by omega), e1, rI_s]; rfl
    · rw [e8, rI_n (by omega), e7, rI_n (by omega), e6, rI_n (by omega), e5, rI_n (by omega), e4, rI_n (by omega), e3, rI_n (by omega), e2, rI_s]; rfl
    · rw [e8, rI_n (by omega), e7, rI_n (by omega), e6, rI_n (by omega), e5, rI_n (by omega), e4, rI_n (by omega), e3, rI_s]; rfl
    · rw [e8, rI_n (by omega), e7, rI_n (by omega), e6, rI_n (by omega), e5, rI_n (by omega), e4, rI_s]; rfl
    · rw [e8, rI_n (by omega), e7, rI_n (by omega), e6, rI_n (by omega), e5, rI_s]; rfl
    · rw [e8, rI_n (by omega), e7, rI_n (by omega), e6, rI_s]; rfl
    · rw [e8, rI_n (by omega), e7, rI_s]
    · rw [e8, rI_s]
  have hp8 := pD_fM hp f18
  refine d_starts (by omega) hG hp8 (fun m9 a1 a2 => ?_)
  have hp9 := pD_fM hp8 a2
  refine b_X10_searchesAll_50 (d_markOf (by omega) h7 hp9.1 a1 (st_cwf hG) ?_)
  refine b_X10_searchesAll_53 ⟨pk_in 0 8 (by omega), ?_⟩
  rw [show (0 : Int32).toNatClampNeg = 0 from rfl]
  intro m10 e10
  have f10 : fM [] [823] m9 m10 := by rw [e10]; exact fM_r
  refine d_searches hG 7 (d + 12) _ _ 0 (ms0 G) 0 ss0 m10 _ (by omega) (by omega) (nod_0 hG) (ptw_0 _ _) ⟨fun w => absurd rfl w, fun g hg => (by cases hg)⟩ ⟨fun _ => rfl, fun w => absurd rfl w⟩ (srch_l hG) (pD_fM hp9 f10) (pE_fM a1 f10) (fun i hi => ?_) (pXS_fM (pXS_fM hx8 a2) f10) (fun m11 b1 b2 => ?_)
  · have : i = 0 := by omega
    subst this
    rw [e10, rI_s]
    rfl
  · exact b_X10_searchesAll_59 (K m11 b1 (fM_trans (fM_mono f18) (fM_trans (fM_mono a2) (fM_trans (fM_mono f10) b2.1))))
end ZMo
