/-! the model: the way through the whole tree -/
def pXT (m : zm) (n : Nat) (s : TS) : Prop := m.1 810 30 = nI (t_n s) ∧ m.1 810 31 = nI (t_l s) ∧ m.1 810 32 = nI (t_d s) ∧ m.1 810 33 = nI (t_k s) ∧ (t_l s = 0 → m.1 810 35 = -1) ∧ (t_l s ≠ 0 → pB m n (t_t s))
theorem pXT_fM {F A : List Nat} {m m' : zm} {n : Nat} {s : TS} (h : pXT m n s) (f : fM F A m m') (h1 : 825 ∉ A := by decide) (h2 : 826 ∉ A := by decide) (h3 : 827 ∉ A := by decide) (h4 : 30 ∉ F ∧ 31 ∉ F ∧ 32 ∉ F ∧ 33 ∉ F ∧ 35 ∉ F := by decide) : pXT m' n s := by
  obtain ⟨a1, a2, a3, a4, a5, a6⟩ := h
  exact ⟨by rw [fM_2 f h4.1]; exact a1, by rw [fM_2 f h4.2.1]; exact a2, by rw [fM_2 f h4.2.2.1]; exact a3, by rw [fM_2 f h4.2.2.2.1]; exact a4, fun z => by rw [fM_2 f h4.2.2.2.2]; exact a5 z, fun z => pB_fM (a6 z) f h1 h2 h3 h4.2.2.2.2⟩
def fW (d : Nat) (m m' : zm) : Prop := fM [25, 30, 31, 32, 33, 35] [819, 820, 821, 822, 823, 824, 825, 826, 827] m m' ∧ (∀ i, i < 7 * d → m'.1 822 i = m.1 822 i) ∧ ∀ i, i ≤ d → m'.1 823 i = m.1 823 i
theorem fW_refl (d : Nat) (m : zm) : fW d m m := ⟨fM_refl _ _ _, fun _ _ => rfl, fun _ _ => rfl⟩
theorem fW_trans {d : Nat} {m m' m'' : zm} (h1 : fW d m m') (h2 : fW d m' m'') : fW d m m'' := ⟨fM_trans h1.1 h2.1, fun i h => (h2.2.1 i h).trans (h1.2.1 i h), fun i h => (h2.2.2 i h).trans (h1.2.2 i h)⟩
theorem fW_mono {d d' : Nat} {m m' : zm} (h : fW d' m m') (hd : d ≤ d') : fW d m m' := ⟨h.1, fun i hi => h.2.1 i (by omega), fun i hi => h.2.2 i (by omega)⟩
theorem fW_fM {F A : List Nat} {d : Nat} {m m' : zm} (f : fM F A m m') (h1 : 822 ∉ A := by decide) (h2 : 823 ∉ A := by decide) (h3 : ∀ k ∈ F, k ∈ [25, 30, 31, 32, 33, 35] := by decide) (h4 : ∀ k ∈ A, k ∈ [819, 820, 821, 822, 823, 824, 825, 826, 827] := by decide) : fW d m m' := ⟨fM_mono f h3 h4, fun i _ => fM_1 f i (by decide) h1, fun i _ => fM_1 f i (by decide) h2⟩
section ZMo
variable {g : zG} {gr : Bool}
theorem d_walks {G : Gr} (hG : gWF G) : ∀ (k e : Nat) (c : Nat → Nat) (q d : Nat) (ms : Nat → Nat) (apb : Nat) (s : TS) (m : zm) (Q : Option Value → zH → Prop), gn G ≤ k + d → k + 4 ≤ e → nod G c q d ms apb → tft (gn G) s → pD m G → pE m (gn G) c q → (∀ i, i ≤ d → m.1 823 i = nI (ms i)) → pXT m (gn G) s →
    (∀ m', pXT m' (gn G) (tw G k c q d ms s) → fW d m m' → Q none (mk m')) → Ok g gr e mX10_walks 0 0 [.ref 810, .int (nI d)] (mk m) Q := by
  have h7 := hG.2.1.2
  intro k
  induction k with
  | zero =>
    intro e c q d ms apb s m Q h1 h2 hi
    have := nod_d hG hi
    omega
  | succ k ih =>
    intro e c q d ms apb s m Q h1 h2 hi hsf hp hE hms hss H
    obtain ⟨x, rfl⟩ : ∃ x, e = x + 4 := ⟨e - 4, by omega⟩
    have hd := nod_d hG hi
    have hcw := hi.1.1
    have hc8 : ∀ v, v < gn G → c v < 8 := fun v hv => by have := hcw.1 v hv; omega
    have htd := hsf.2
    refine b_X10_walks_0 ?_
    intro m1 e1
    rw [hss.1, nI_1] at e1
    have f1 : fM [30] [] m m1 := by rw [e1]; exact fM_f
    have hp1 := pD_fM hp f1
    have hE1 := pE_fM hE f1
    have hms1 : ∀ i, i ≤ d → m1.1 823 i = nI (ms i) := fun i hi2 => by rw [fM_1 f1]; exact hms i hi2
    have hss1 : pXT m1 (gn G) (ts_n s) := by
      obtain ⟨a1, a2, a3, a4, a5, a6⟩ := hss
      refine ⟨by rw [e1]; exact rI_s, by rw [fM_2 f1]; exact a2, by rw [fM_2 f1]; exact a3, by rw [fM_2 f1]; exact a4, fun z => by rw [fM_2 f1]; exact a5 z, fun z => pB_fM (a6 z) f1⟩
    refine d_targetCell (by omega) h7 hp1.1 hE1 hcw ?_
    have htl := tg_le c (gn G) q
    refine b_X10_walks_14 ⟨fun z => ?_, fun z => ?_⟩
    · have h0 : tg c (gn G) q ≠ 0 := fun w => z ((tgv_0 (by omega)).mpr w)
      have hqn : q < gn G := by
        rcases Nat.lt_or_ge q (gn G) with w | w
        · exact w
        · have : q = gn G := by omega
          rw [this] at hcw h0
          exact absurd (tg_full hcw) h0
      rw [tgv_n h0]
      refine d_setOf h7 hp1.1 hE1 hc8 (by omega) ?_
      refine b_X10_walks_110 ?_
      rw [hE1.2]
      refine d_saves h7 hp1.1 hd.2.2 hE1 (fun m2 s1 s2 s3 => ?_)
      refine b_X10_walks_122 ?_
      have fW2 : fW d m m2 := fW_trans (fW_fM f1) ⟨fM_mono s3, s2, fun i _ => fM_1 s3 i⟩
      let B := twb G k c q d ms
      refine up_to (n := gn G) (P := fun v => ∀ m', pXT m' (gn G) (it B v (ts_n s)) → tft (gn G) (it B v (ts_n s)) → pE m' (gn G) c q → (∀ v, v < gn G → m'.1 822 (7 * d + v) = nI (c v)) → fW d m m' → WP g gr (x + 4) mX10_walks 0 0 125 [.ref 810, .int (nI d), .retAddr 0, .int (nI (bm (fun v => c v == tg c (gn G) q - 1) (gn G))), .int (nI q), .int (nI v)] [] (mk m') Q) ?_ ?_ 0 (Nat.zero_le _) m2 (pXT_fM hss1 s3) hsf (pE_fM hE1 s3) s1 fW2
      · intro m' a1 a2 a3 a4 a5
        have hp' := pD_fM hp a5.1
        refine b_X10_walks_125 (pk_le (gn G) (gn G) (fun _ => H m' ?_ a5) (fun w => absurd w (Nat.lt_irrefl _)) hp'.1)
        rw [tw_succ, if_neg h0]
        exact a1
      · intro v hv ihv m' a1 a2 a3 a4 a5
        have hp' := pD_fM hp a5.1
        have ev : it B (v + 1) (ts_n s) = B v (it B v (ts_n s)) := rfl
        rw [ev] at ihv
        generalize hx : it B v (ts_n s) = y at *
        refine b_X10_walks_125 (pk_le (gn G) v (fun w => by omega) (fun _ => ?_) hp'.1)
        rw [i_has (bm_31 (by omega)) (by omega), bm_bit, decide_eq_true hv, Bool.true_and, nI_1]
        refine ⟨fun hin => ?_, fun hin => ?_⟩
        · have hcv : c v + 1 = tg c (gn G) q := by have := eq_of_beq hin; omega
          have hcz := cz_tg h0 hcv
          refine d_setsApart h7 hp'.1 a3 hc8 hv (fun m3 b1 b2 => ?_)
          refine b_X10_walks_149 ?_
          rw [nI_1]
          refine d_refines (by omega) hG (pD_fM hp' b2) b1 (ap_cwf hcw hv hcz) (by omega) (fun m4 c1 c2 => ?_)
          have hp4 := pD_fM (pD_fM hp' b2) c2
          obtain ⟨n1, n2, n3, n4, n5⟩ := nx_all hG hcw hv h0 hcv
          refine b_X10_walks_161 ?_
          refine d_markOf (by omega) h7 hp4.1 c1 n1 ?_
          have fm4 : fM [25] [819, 820, 821] m' m4 := fM_trans (fM_mono b2) c2
          refine b_X10_walks_164 ⟨pk_in (d + 1) 8 (by omega), ?_⟩
          rw [nI_clamp (show d + 1 < 2 ^ 31 by omega)]
          intro m5 e5
          have f5 : fM [] [823] m4 m5 := by rw [e5]; exact fM_r
          have hnod := nod_nx hG hi hv h0 hcv
          have fm5 : fM [25] [819, 820, 821, 823] m' m5 := fM_trans (fM_mono fm4) (fM_mono f5)
          have hm5 : ∀ i, i ≤ d + 1 → m5.1 823 i = nI (msn G c q v d ms i) := fun i hi2 => by
            rw [e5]
            unfold msn
            by_cases w : i = d + 1
            · subst w; rw [rI_s, if_pos rfl]; rfl
            · rw [rI_n (fun z => w z.2), if_neg w, fM_1 fm4, a5.2.2 i (by omega)]
              exact hms i (by omega)
          have fW5 : fW d m' m5 := ⟨fM_mono fm5, fun i _ => fM_1 fm5 i, fun i hi2 => by rw [e5, rI_n (by omega), fM_1 fm4]⟩
          have eB : B v y = tw G k (nx G c q v).1 (nx G c q v).2.1 (d + 1) (msn G c q v d ms) y := by show (if _ then _ else _) = _; rw [if_pos hcv]
          rw [eB] at ihv
          rw [nI_1]
          refine ih (x + 3) _ _ (d + 1) _ (apb ||| 2 ^ v) y m5 _ (by omega) (by omega) hnod a2 (pD_fM hp' fm5) (pE_fM c1 f5) hm5 (pXT_fM a1 fm5) (fun m6 d1 d2 => ?_)
          refine b_X10_walks_172 ?_
          have hp6 := pD_fM (pD_fM hp' fm5) d2.1
          have sv6 : ∀ v, v < gn G → m6.1 822 (7 * d + v) = nI (c v) := fun u hu => by rw [d2.2.1 _ (by omega), fM_1 fm5]; exact a4 u hu
          refine d_comesBack h7 hp6.1 hd.2.2 sv6 (fun m7 g1 g2 => ?_)
          refine b_X10_walks_179 ?_
          rw [nI_1]
          exact ihv m7 (pXT_fM d1 g2) (tw_tft hG hnod a2) g1 (fun u hu => by rw [fM_1 g2]; exact sv6 u hu) (fW_trans a5 (fW_trans fW5 (fW_trans (fW_mono d2 (by omega)) (fW_fM g2))))
        · have eB : B v y = y := by show (if _ then _ else _) = _; rw [if_neg (fun w => hin (bq_t (show c v = tg c (gn G) q - 1 by omega)))]
          rw [eB] at ihv
          exact ihv m' a1 a2 a3 a4 a5
    · have h0 : tg c (gn G) q = 0 := (tgv_0 (by omega)).mp z
      intro m2 e2
      rw [hss1.2.1, nI_1] at e2
      have f2 : fM [31] [] m1 m2 := by rw [e2]; exact fM_f
      have r31 : m2.1 810 31 = nI (t_l s + 1) := by rw [e2]; exact rI_s
      let l : Lf := mkl G c d ms
      let D : Nat := if t_d s < d then d else t_d s
      have hD : tw G (k + 1) c q d ms s = tl l (ts_n s) := by rw [tw_succ, if_pos h0]
      have hl : lmk (gn G) l := lmk_mkl hG hi h0
      have hlc : lcd (gn G) l := lcd_cd hG.1 _ _ _
      have hDl : (if t_d (ts_n s) < l_d l then l_d l else t_d (ts_n s)) = D := rfl
      -- behind the depth
      have behind : ∀ m3, m3.1 810 32 = nI D → fM [32] [] m2 m3 → Ok g gr (x + 3) mX10_laysCode 0 0 [.ref 810] (mk m3) (fun r h2 => WP g gr (x + 4) mX10_walks 0 0 54 [.ref 810, .int (nI d), .retAddr 0, .retAddr 0, .retAddr 0, .retAddr 0] (r.toList ++ []) h2 Q) := by
        intro m3 r32 f3
        have f23 : fM [31, 32] [] m1 m3 := fM_trans (fM_mono f2) (fM_mono f3)
        have f13 : fM [30, 31, 32] [] m m3 := fM_trans (fM_mono f1) (fM_mono f23)
        refine d_laysCode (by omega) hG (pD_fM hp f13) (pE_fM hE f13) hcw h0 (fun m4 b1 b2 => ?_)
        have f14 : fM [30, 31, 32] [824] m m4 := fM_trans (fM_mono f13) (fM_mono b2)
        have hms4 : ∀ i, i ≤ d → m4.1 823 i = nI (ms i) := fun i hi2 => by rw [fM_1 f14]; exact hms i hi2
        have x30 : m4.1 810 30 = nI (t_n s + 1) := by rw [fM_2 b2, fM_2 f23]; exact hss1.1
        have x31 : m4.1 810 31 = nI (t_l s + 1) := by rw [fM_2 b2, fM_2 f3]; exact r31
        have x32 : m4.1 810 32 = nI D := by rw [fM_2 b2]; exact r32
        have x33 : m4.1 810 33 = nI (t_k s) := by rw [fM_2 b2, fM_2 f23]; exact hss1.2.2.2.1
        have pE4 := pE_fM hE f14
        have n4 : m4.1 810 21 = nI (gn G) := by rw [fM_2 f14]; exact hp.1
        -- it is the best
        have best : ∀ r : Int32, r < 0 → (∀ m', pXT m' (gn G) (t_n s + 1, t_l s + 1, D, 1, l) → fW d m m' → Q none (mk m')) → Ok g gr (x + 3) mX10_isBest 0 0 [.ref 810, .int (nI d)] (mk m4) (fun r' h2 => WP g gr (x + 4) mX10_walks 0 0 81 [.ref 810, .retAddr 0, .retAddr 0, .int r, .retAddr 0, .retAddr 0] (r'.toList ++ []) h2 Q) := by
          intro r hr HH
          refine d_isBest (l := l) (by omega) h7 n4 pE4 hcw h0 hd.2.2 hms4 b1 rfl (fun m5 g1 g2 => ?_)
          refine b_X10_walks_81 ?_
          intro m6 e6
          have f6 : fM [33] [] m5 m6 := by rw [e6]; exact fM_f
          refine ⟨fun w => absurd w (by rw [Int32.not_lt]; exact Int32.le_of_lt hr), fun _ => ?_⟩
          have f7 : fM [33] [] m6 (wI m6 810 33 ((m6.1 810 33) + (1 : Int32))) := fM_f
          have f57 : fM [33] [] m5 (wI m6 810 33 ((m6.1 810 33) + (1 : Int32))) := fM_trans f6 f7
          refine HH _ ⟨?_, ?_, ?_, ?_, fun w => absurd w (by show t_l s + 1 ≠ 0; omega), fun _ => pB_fM g1 f57⟩ (fW_fM (F := [30, 31, 32, 33, 35]) (A := [824, 825, 826, 827]) (fM_trans (fM_mono f14) (fM_trans (fM_mono g2) (fM_mono f57))))
          · rw [fM_2 f57, fM_2 g2]; exact x30
          · rw [fM_2 f57, fM_2 g2]; exact x31
          · rw [fM_2 f57, fM_2 g2]; exact x32
          · rw [rI_s, e6, rI_s]; rfl
        by_cases hl0 : t_l s = 0
        · have h35 : m4.1 810 35 = -1 := by rw [fM_2 b2, fM_2 f23]; exact hss1.2.2.2.2.1 hl0
          refine b_X10_walks_54 ⟨fun w => absurd h35 w, fun _ => best (-1) (by decide) (fun m' y1 y2 => H m' ?_ y2)⟩
          rw [hD]
          unfold tl
          rw [if_pos (show (t_l (ts_n s) = 0 ∨ ky l < ky (t_t (ts_n s))) from Or.inl hl0)]
          exact y1
        · obtain ⟨t1, t2⟩ := hsf.1 hl0
          have hB := pB_fM (pB_fM (hss1.2.2.2.2.2 hl0) f23) b2
          have key : ∀ t, t < 8 → ¬ nI t = -1 := by decide +kernel
          have hn1 : ¬ m4.1 810 35 = -1 := by rw [hB.1]; exact key _ (by have := t1.1; show l_d (t_t s) < 8; omega)
          refine b_X10_walks_54 ⟨fun _ => ?_, fun w => absurd w hn1⟩
          refine d_comparesBest (l := l) (by omega) h7 n4 rfl hms4 b1 hB hl t1 hlc t2 (fun r r1 r2 => ?_)
          have r1 : r < 0 ↔ ky l < ky (t_t s) := r1
          have r2 : r = 0 ↔ ky l = ky (t_t s) := r2
          refine b_X10_walks_71 ⟨fun w => ⟨fun w2 => ?_, fun w2 => ?_⟩, fun w => ?_⟩
          · have n1 : ¬ ky l < ky (t_t s) := fun v => (Int32.not_lt.mpr w) (r1.mpr v)
            have n2 : ¬ ky l = ky (t_t s) := fun v => by rw [r2.mpr v] at w2; exact absurd w2 (by decide)
            have f5 : fM [33] [] m4 (wI m4 810 33 ((m4.1 810 33) + (0 : Int32))) := fM_f
            refine H _ ?_ (fW_fM (F := [30, 31, 32, 33]) (A := [824]) (fM_trans (fM_mono f14) (fM_mono f5)))
            rw [hD]
            unfold tl
            rw [if_neg (show ¬ (t_l (ts_n s) = 0 ∨ ky l < ky (t_t (ts_n s))) from fun v => v.elim hl0 n1), if_neg (show ¬ ky l = ky (t_t (ts_n s)) from n2)]
            refine ⟨by rw [fM_2 f5]; exact x30, by rw [fM_2 f5]; exact x31, by rw [fM_2 f5]; exact x32, ?_, fun v => absurd v (by show t_l s + 1 ≠ 0; omega), fun _ => pB_fM hB f5⟩
            rw [rI_s, x33, show (0 : Int32) = nI 0 from rfl, nI_add]; rfl
          · have n2 : ky l = ky (t_t s) := r2.mp (Int32.le_antisymm (Int32.not_lt.mp w2) w)
            have f5 : fM [33] [] m4 (wI m4 810 33 ((m4.1 810 33) + (1 : Int32))) := fM_f
            refine H _ ?_ (fW_fM (F := [30, 31, 32, 33]) (A := [824]) (fM_trans (fM_mono f14) (fM_mono f5)))
            rw [hD]
            unfold tl
            rw [if_neg (show ¬ (t_l (ts_n s) = 0 ∨ ky l < ky (t_t (ts_n s))) from fun v => v.elim hl0 (fun v => by have v : ky l < ky (t_t s) := v; omega)), if_pos (show ky l = ky (t_t (ts_n s)) from n2)]
            refine ⟨by rw [fM_2 f5]; exact x30, by rw [fM_2 f5]; exact x31, by rw [fM_2 f5]; exact x32, ?_, fun v => absurd v (by show t_l s + 1 ≠ 0; omega), fun _ => pB_fM hB f5⟩
            rw [rI_s, x33, nI_1]; rfl
          · have n1 : ky l < ky (t_t s) := r1.mp (Int32.not_le.mp w)
            refine best r (Int32.not_le.mp w) (fun m' y1 y2 => H m' ?_ y2)
            rw [hD]
            unfold tl
            rw [if_pos (show (t_l (ts_n s) = 0 ∨ ky l < ky (t_t (ts_n s))) from Or.inr n1)]
            exact y1
      have m32 : m2.1 810 32 = nI (t_d s) := by rw [fM_2 f2]; exact hss1.2.2.1
      rw [m32]
      refine pk_le d (t_d s) (fun w => ?_) (fun w => ?_)
      · intro m3 e3
        refine behind m3 ?_ (by rw [e3]; exact fM_f)
        rw [e3, rI_s]
        show _ = nI (if t_d s < d then d else t_d s)
        rw [if_neg (by omega)]
      · intro m3 e3
        refine behind m3 ?_ (by rw [e3]; exact fM_f)
        rw [e3, rI_s]
        show _ = nI (if t_d s < d then d else t_d s)
        rw [if_pos w]
theorem d_walksAll {G : Gr} {e : Nat} {m : zm} {Q : Option Value → zH → Prop} (he : 13 ≤ e) (hG : gWF G) (hp : pD m G) (K : ∀ m', pXT m' (gn G) (tree G) → m'.1 823 0 = nI (ms0 G 0) → fM [25, 30, 31, 32, 33, 35] [819, 820, 821, 822, 823, 824, 825, 826, 827] m m' → Q none (mk m')) : Ok g gr e mX10_walksAll 0 0 [.ref 810] (mk m) Q := by
  obtain ⟨d, rfl⟩ := dn he
  have h7 := hG.2.1.2
  refine b_X10_walksAll_0 ?_
  intro m1 e1 m2 e2 m3 e3 m4 e4 m5 e5
  have f1 : fM [30, 31, 32, 33, 35] [] m m1 := by rw [e1]; exact fM_f
  have f2 : fM [30, 31, 32, 33, 35] [] m1 m2 := by rw [e2]; exact fM_f
  have f3 : fM [30, 31, 32, 33, 35] [] m2 m3 := by rw [e3]; exact fM_f
  have f4 : fM [30, 31, 32, 33, 35] [] m3 m4 := by rw [e4]; exact fM_f
  have f5 : fM [30, 31, 32, 33, 35] [] m4 m5 := by rw [e5]; exact fM_f
  have f15 := fM_trans f1 (fM_trans f2 (fM_trans f3 (fM_trans f4 f5)))
  have hx5 : pXT m5 (gn G) ts0 := by
    refine ⟨?_, ?_, ?_, ?_, fun _ => by rw [e5]; exact rI_s, fun w => absurd rfl w⟩
    · rw [e5, rI_n (by omega), e4, rI_n (by omega), e3, rI_n (by omega), e2, rI_n (by omega), e1, rI_s]; rfl
    · rw [e5, rI_n (by omega), e4, rI_n (by omega), e3, rI_n (by omega), e2, rI_s]; rfl
    · rw [e5, rI_n (by omega), e4, rI_n (by omega), e3, rI_s]; rfl
    · rw [e5, rI_n (by omega), e4, rI_s]; rfl
  have hp5 := pD_fM hp f15
  refine d_starts (by omega) hG hp5 (fun m6 a1 a2 => ?_)
  have hp6 := pD_fM hp5 a2
  refine b_X10_walksAll_35 (d_markOf (by omega) h7 hp6.1 a1 (st_cwf hG) ?_)
  refine b_X10_walksAll_38 ⟨pk_in 0 8 (by omega), ?_⟩
  rw [show (0 : Int32).toNatClampNeg = 0 from rfl]
  intro m7 e7
  have f7 : fM [] [823] m6 m7 := by rw [e7]; exact fM_r
  refine d_walks hG 7 (d + 12) _ _ 0 (ms0 G) 0 ts0 m7 _ (by omega) (by omega) (nod_0 hG) ⟨fun w => absurd rfl w, Nat.zero_le _⟩ (pD_fM hp6 f7) (pE_fM a1 f7) (fun i hi => ?_) (pXT_fM (pXT_fM hx5 a2) f7) (fun m8 b1 b2 => ?_)
  · have : i = 0 := by omega
    subst this
    rw [e7, rI_s]
    rfl
  · exact b_X10_walksAll_44 (K m8 b1 (by rw [b2.2.2 0 (Nat.le_refl _), e7, rI_s]; rfl) (fM_trans (fM_mono f15) (fM_trans (fM_mono a2) (fM_trans (fM_mono f7) b2.1))))
/-- the name, kept in row 828 -/
theorem d_keepsName {G : Gr} {v e : Nat} {m : zm} {Q : Option Value → zH → Prop} (he : 14 ≤ e) (hG : gWF G) (hp : pD m G) (hv : v < 7) (K : ∀ m', (∀ i, i < 28 → m'.1 828 (28 * v + i) = nI (l_c (t_t (tree G)) i)) → (∀ i, (i < 28 * v ∨ 28 * v + 28 ≤ i) → m'.1 828 i = m.1 828 i) → fM [25, 30, 31, 32, 33, 35] [819, 820, 821, 822, 823, 824, 825, 826, 827, 828] m m' → Q none (mk m')) : Ok g gr e mX10_keepsName 0 0 [.ref 810, .int (nI v)] (mk m) Q := by
  obtain ⟨d, rfl⟩ := dn he
  have h7 := hG.2.1.2
  obtain ⟨-, hl0, -⟩ := best_same hG
  have htf : tft (gn G) (tree G) := tw_tft hG (nod_0 hG) ⟨fun w => absurd rfl w, Nat.zero_le _⟩
  have hlc := (htf.1 hl0).2
  have hcl := (cln_tab (gn G) h7).2
  refine b_X10_keepsName_0 (d_walksAll (by omega) hG hp (fun m1 a1 _ a2 => ?_))
  have hB := a1.2.2.2.2.2 hl0
  have hp1 := pD_fM hp a2
  refine b_X10_keepsName_4 ?_
  have e28 : (28 : Int32) * nI v = nI (28 * v) := pk_mul 28 v
  refine up_to (n := 28) (P := fun k => ∀ m', (∀ i, i < k → m'.1 828 (28 * v + i) = nI (l_c (t_t (tree G)) i)) → (∀ i, (i < 28 * v ∨ 28 * v + 28 ≤ i) → m'.1 828 i = m1.1 828 i) → fM [] [828] m1 m' → WP g gr (d + 14) mX10_keepsName 0 0 6 [.ref 810, .int (nI v), .int (nI k)] [] (mk m') Q) ?_ ?_ 0 (Nat.zero_le _) m1 (fun i hi => absurd hi (Nat.not_lt_zero _)) (fun _ _ => rfl) (fM_refl _ _ _)
  · intro m' b1 b2 b3
    exact b_X10_keepsName_6 (pk_le 28 28 (fun _ => K m' b1 (fun i hi => by rw [b2 i hi, fM_1 a2]) (fM_trans (fM_mono a2) (fM_mono b3))) (fun w => absurd w (Nat.lt_irrefl _)))
  · intro k hk ih m' b1 b2 b3
    have hn : m'.1 810 21 = nI (gn G) := by rw [fM_2 b3]; exact hp1.1
    refine b_X10_keepsName_6 (pk_le 28 k (fun w => by omega) (fun _ => ?_))
    rw [hn, i_cln _ (by omega), e28, nI_add, nI_clamp (show 28 * v + k < 2 ^ 31 by omega), nI_clamp (show k < 2 ^ 31 by omega), nI_1]
    have fin : ∀ y : Int32, y = nI (l_c (t_t (tree G)) k) → WP g gr (d + 14) mX10_keepsName 0 0 6 [.ref 810, .int (nI v), .int (nI (k + 1))] [] (mk (wI m' 828 (28 * v + k) y)) Q := by
      intro y hy
      refine ih _ (fun i hi => ?_) (fun i hi => by rw [rI_n (by omega)]; exact b2 i hi) (fM_trans b3 fM_r)
      by_cases w : i = k
      · subst w; rw [rI_s]; exact hy
      · rw [rI_n (by omega)]; exact b1 i (by omega)
    refine pk_le (cln (gn G)) k (fun w => ⟨pk_in (28 * v + k) 196 (by omega), fin _ ?_⟩) (fun w => ⟨pk_in k 28 (by omega), pk_in (28 * v + k) 196 (by omega), fin _ ?_⟩)
    · rw [hlc.2 k w]; rfl
    · rw [fM_1 b3]; exact hB.2.2.1 k w
end ZMo
