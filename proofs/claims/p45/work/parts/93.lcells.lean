/-! the law's own methods: cells of START -/
theorem fa_is {p : Nat → Bool} {n k : Nat} (hk : k < n) (hp : p k = true) (hno : ∀ i, i < k → p i = false) : fa_first p n = k := by
  rcases Nat.lt_trichotomy (fa_first p n) k with z | z | z
  · have h1 := fa_first_yes p n (by omega)
    rw [hno _ z] at h1; cases h1
  · exact z
  · have h1 := fa_first_no p n k z
    rw [hp] at h1; cases h1
theorem i_tzb : ∀ a, a < 128 → a ≠ 0 → fTz (nI a) = nI (fa_first a.testBit 7) := by decide +kernel
theorem tz_vi {c : Nat → Nat} {n j : Nat} (hn : n ≤ 7) (h : ∃ v, v < n ∧ c v = j) : fTz (nI (bm (fun v => c v == j) n)) = nI (vi c n j) := by
  obtain ⟨h1, h2⟩ := vi_spec h
  have hz := bm_ne0 (p := fun v => c v == j) h1 (bq_t h2)
  rw [i_tzb _ (bm_7 hn) hz]
  congr 1
  refine fa_is (by omega) (by rw [bm_bit, bq_t h2]; simp [h1]) (fun i hi => ?_)
  rw [bm_bit]
  have := fa_first_no (fun v => c v == j) n i hi
  have : (c i == j) = false := this
  rw [this]; simp
theorem vi_lo {c : Nat → Nat} {n j i : Nat} (hi : i < vi c n j) : c i ≠ j := by
  have := fa_first_no (fun v => c v == j) n i hi
  exact fun z => by simp [z] at this
theorem tgm_keep {c : Nat → Nat} {n j : Nat} (h : ¬ (1 < cz c n j ∧ (tg c n j = 0 ∨ cz c n j < cz c n (tg c n j - 1)))) : tgm c n (j + 1) = tgm c n j := by
  unfold tgm
  rw [tg_succ, if_neg h]
theorem tgm_set {c : Nat → Nat} {n j : Nat} (h : 1 < cz c n j ∧ (tg c n j = 0 ∨ cz c n j < cz c n (tg c n j - 1))) : tgm c n (j + 1) = bm (fun v => c v == j) n := by
  unfold tgm
  rw [tg_succ, if_pos h, if_neg (Nat.succ_ne_zero j)]
  refine bm_cong fun v _ => ?_
  rw [Bool.eq_iff_iff, beq_iff_eq, beq_iff_eq]
  omega
theorem tgm_n {c : Nat → Nat} {n j : Nat} (hn : n ≤ 7) (h : tg c n j ≠ 0) : fBits (nI (tgm c n j)) = nI (cz c n (tg c n j - 1)) := by
  unfold tgm cz
  rw [if_neg h, i_bm hn]
  congr 1
  refine fb_ct_cong fun v _ => ?_
  rw [Bool.eq_iff_iff, beq_iff_eq, beq_iff_eq]
  omega
theorem bss_0 (G : Gr) : ∀ v, bss G 0 v = ((st G).1, (st G).2.1) := by
  intro v
  induction v with
  | zero => rfl
  | succ v ih => rw [bss_n (by rw [Nat.zero_testBit]; decide)]; exact ih
theorem bsq_0 {G : Gr} (hG : gWF G) : bsq G 0 = (st G).2.1 := by
  unfold bsq
  rw [bss_0]
  exact st_again hG
theorem snb_cell {G : Gr} (hG : gOK G) {c : Nat → Nat} {v e k n : Nat} (h1 : 1 ≤ k) : fb_ct (snb G v (bm (fun w => c w == e) n) k) n = fb_ct (fun w => c w == e && gk G v w == k) n := fb_ct_cong fun u hu => by
  unfold snb
  rw [bm_bit]
  by_cases z : u = v
  · subst z
    rw [bq_t rfl, hG.2.2.2, bq_f (show (0 : Nat) ≠ k by omega)]
    cases (c u == e) <;> rfl
  · rw [bq_f z, decide_eq_true hu]; rfl
section ZLs
variable {g : zG} {gr : Bool} {e : Nat} {m : zm} {Q : Option Value → zH → Prop} {s : Sg}
def lst (G : Gr) (c : Nat → Nat) (j : Nat) (l : Int32) : Prop := (j = 0 ∧ l = -1) ∨ (0 < j ∧ l = nI (gc G (vi c (gn G) (j - 1))))
set_option maxHeartbeats 4000000 in
theorem k_lcells {t : Int32} {w : Nat} (he : 40 ≤ e) (hs : sOK s) (hw : w < 3) (hc : CR (qs s t) m) (K : ∀ m', CR (qs s 0) m' → fC m m' → Q (some (.int 1)) (mk m')) : Ok g gr e mL_cells 0 0 [.ref 1, .int (nI w)] (mk m) Q := by
  obtain ⟨d, rfl⟩ := dn (show 14 ≤ e by omega)
  have hG := hs.1 w hw
  have h7 := hG.2.1.2
  have hst := st_cwf hG
  have hq7 := cwf_le hst
  have hq31 : (st (y_W s w)).2.1 < 2 ^ 31 := by omega
  have hex : ∀ j, j < (st (y_W s w)).2.1 → ∃ v, v < gn (y_W s w) ∧ (st (y_W s w)).1 v = j := hst.2
  have hcell : ∀ x, x < (st (y_W s w)).2.1 → ∀ (m1 : zm) (Q2 : Option Value → zH → Prop), CR (qs s 0) m1 → (∀ m2, CR (qs s 0) m2 → fC m1 m2 → Q2 (some (.int (nI (bm (fun v => (st (y_W s w)).1 v == x) (gn (y_W s w)))))) (mk m2)) → Ok g gr (d + 13) mX9_cell 0 0 [.ref 1, .int (nI w), .int (nI x)] (mk m1) Q2 := fun x hx m1 Q2 c1 k => y_cell (s := qs s 0) (sOK_qs hs 0) hw (j := x) hx g gr (d + 13) m1 Q2 (by omega) c1 k
  have hcol : ∀ v, v < gn (y_W s w) → ∀ (m1 : zm) (Q2 : Option Value → zH → Prop), CR (qs s 0) m1 → (∀ m2, CR (qs s 0) m2 → fC m1 m2 → Q2 (some (.int (nI (gc (y_W s w) v)))) (mk m2)) → Ok g gr (d + 13) mX9_colour 0 0 [.ref 1, .int (nI w), .int (nI v)] (mk m1) Q2 := fun v hv m1 Q2 c1 k => y_colour (s := qs s 0) (sOK_qs hs 0) hw hv g gr (d + 13) m1 Q2 (by omega) c1 k
  have outer : ∀ r j, j + r = (st (y_W s w)).2.1 → ∀ (l : Int32) (m1 : zm), lst (y_W s w) (st (y_W s w)).1 j l → CR (qs s 0) m1 → fC m m1 → WP g gr (d + 14) mL_cells 0 0 26 [.ref 1, .int (nI w), .int (nI (gn (y_W s w))), .int (nI (bm (fun v => decide ((st (y_W s w)).1 v < j)) (gn (y_W s w)))), .int (nI ((st (y_W s w)).2.1)), .int l, .int (nI (tgm (st (y_W s w)).1 (gn (y_W s w)) j)), .int (nI j), .retAddr 0, .retAddr 0, .retAddr 0, .retAddr 0, .retAddr 0] [] (mk m1) Q := by
    intro r
    induction r with
    | zero =>
      intro j hj l m1 hl c1 f1
      have e : j = (st (y_W s w)).2.1 := by omega
      subst e
      refine b_L_cells_26 (pk_le ((st (y_W s w)).2.1) ((st (y_W s w)).2.1) (fun _ => ?_) (fun z => by omega))
      have eall : bm (fun v => decide ((st (y_W s w)).1 v < (st (y_W s w)).2.1)) (gn (y_W s w)) = 2 ^ (gn (y_W s w)) - 1 := by
        rw [← bm_all]
        exact bm_cong fun v hv => decide_eq_true (hst.1 v hv)
      rw [eall, i_2n (by omega)]
      refine ⟨fun z => absurd rfl z, fun _ => ?_⟩
      refine y_start_t (s := qs s 0) (sOK_qs hs 0) hw g gr (d + 13) m1 _ (by omega) c1 (fun m2 c2 f2 => b_L_cells_269 ⟨fun z => absurd rfl z, fun _ => ?_⟩)
      refine y_cell_x (s := qs s 0) (sOK_qs hs 0) hw (Or.inr ⟨i_nn hq31, nI_le (Nat.le_refl _) hq31⟩) g gr (d + 13) m2 _ (by omega) c2 (fun m3 c3 f3 => b_L_cells_281 ⟨fun z => absurd rfl z, fun _ => ?_⟩)
      refine y_trouble (s := qs s 1) (sOK_qs hs 1) g gr (d + 13) m3 _ (by omega) c3 (fun m4 c4 f4 => b_L_cells_289 ⟨fun z => absurd rfl z, fun _ => ?_⟩)
      refine y_start_c (s := qs s 1) (sOK_qs hs 1) hw g gr (d + 13) m4 _ (by omega) c4 (fun m5 c5 f5 => b_L_cells_299 ?_)
      refine y_graph_colours (s := qs s 0) (sOK_qs hs 0) hw g gr (d + 13) m5 _ (by omega) c5 (fun m6 c6 f6 => b_L_cells_305 ⟨fun z => absurd rfl z, fun _ => ?_⟩)
      refine y_base (s := qs s 0) (sOK_qs hs 0) hw (k := 0) (Nat.two_pow_pos _) g gr (d + 13) m6 _ (by omega) c6 (fun m7 c7 f7 => b_L_cells_314 ⟨fun z => absurd (congrArg nI (bsq_0 hG)) z, fun _ => K m7 c7 (fC_trans f1 (fC_trans f2 (fC_trans f3 (fC_trans f4 (fC_trans f5 (fC_trans f6 f7))))))⟩)
    | succ r ih =>
      intro j hj l m1 hl c1 f1
      have hjq : j < (st (y_W s w)).2.1 := by omega
      obtain ⟨x1, x2⟩ := vi_spec (hex j hjq)
      have key : ∀ r2 i, i + r2 = gn (y_W s w) → vi (st (y_W s w)).1 (gn (y_W s w)) j < i → ∀ m1, CR (qs s 0) m1 → fC m m1 → WP g gr (d + 14) mL_cells 0 0 126 [.ref 1, .int (nI w), .int (nI (gn (y_W s w))), .int (nI (bm (fun v => decide ((st (y_W s w)).1 v < j + 1)) (gn (y_W s w)))), .int (nI ((st (y_W s w)).2.1)), .int (nI (gc (y_W s w) (vi (st (y_W s w)).1 (gn (y_W s w)) j))), .int (nI (tgm (st (y_W s w)).1 (gn (y_W s w)) (j + 1))), .int (nI j), .int (nI (bm (fun v => (st (y_W s w)).1 v == j) (gn (y_W s w)))), .int (nI (vi (st (y_W s w)).1 (gn (y_W s w)) j)), .int (nI i), .retAddr 0, .retAddr 0] [] (mk m1) Q := by
        intro r2
        induction r2 with
        | zero =>
          intro i hi hfi m1 c1 f1
          refine b_L_cells_126 (pk_le (gn (y_W s w)) i (fun _ => ?_) (fun z => by omega))
          rw [nI_1]
          exact ih (j + 1) (by omega) _ m1 (Or.inr ⟨by omega, by rw [Nat.add_sub_cancel]⟩) c1 f1
        | succ r2 ih2 =>
          intro i hi hfi m1 c1 f1
          have hin : i < gn (y_W s w) := by omega
          have next : ∀ m1, CR (qs s 0) m1 → fC m m1 → WP g gr (d + 14) mL_cells 0 0 126 [.ref 1, .int (nI w), .int (nI (gn (y_W s w))), .int (nI (bm (fun v => decide ((st (y_W s w)).1 v < j + 1)) (gn (y_W s w)))), .int (nI ((st (y_W s w)).2.1)), .int (nI (gc (y_W s w) (vi (st (y_W s w)).1 (gn (y_W s w)) j))), .int (nI (tgm (st (y_W s w)).1 (gn (y_W s w)) (j + 1))), .int (nI j), .int (nI (bm (fun v => (st (y_W s w)).1 v == j) (gn (y_W s w)))), .int (nI (vi (st (y_W s w)).1 (gn (y_W s w)) j)), .int (nI i + (1 : Int32)), .retAddr 0, .retAddr 0] [] (mk m1) Q := fun m1 c1 f1 => by
            rw [nI_1]; exact ih2 (i + 1) (by omega) (by omega) m1 c1 f1
          refine b_L_cells_126 (pk_le (gn (y_W s w)) i (fun z => by omega) (fun _ => ?_))
          rw [i_b1 (bm_31 (by omega)) (by omega)]
          by_cases hb : (bm (fun v => (st (y_W s w)).1 v == j) (gn (y_W s w))).testBit i = true
          · rw [if_pos hb]
            refine ⟨fun _ => ?_, fun y => absurd y (by decide)⟩
            have hci : (st (y_W s w)).1 i = j := by
              rw [bm_bit] at hb
              simpa [hin] using hb
            have hcc : gc (y_W s w) i = gc (y_W s w) (vi (st (y_W s w)).1 (gn (y_W s w)) j) := Nat.le_antisymm (st_col hG hin x1 (by omega)) (st_col hG x1 hin (by omega))
            refine hcol i hin m1 _ c1 (fun m2 c2 f2 => b_L_cells_152 ⟨fun y => absurd (congrArg nI hcc) y, fun _ => ?_⟩)
            refine y_orbit (s := qs s 0) (sOK_qs hs 0) hw hin g gr (d + 13) m2 _ (by omega) c2 (fun m3 c3 f3 => b_L_cells_164 ?_)
            have eo : nI (rch (mps (y_W s w) (y_W s w) 0) i) &&& (nI (bm (fun v => (st (y_W s w)).1 v == j) (gn (y_W s w))) ^^^ (-1 : Int32)) = 0 := by
              have hr := rch_lt (L := mps (y_W s w) (y_W s w) 0) (v := i) (fun p hp => mps_lt h7 p hp i hin)
              rw [← bm_tb (show rch (mps (y_W s w) (y_W s w) 0) i < 2 ^ 7 from hr), ← bm_tb (show bm (fun v => (st (y_W s w)).1 v == j) (gn (y_W s w)) < 2 ^ 7 from bm_7 h7), i_andn (by decide)]
              have : bm (fun x => (rch (mps (y_W s w) (y_W s w) 0) i).testBit x && !((bm (fun v => (st (y_W s w)).1 v == j) (gn (y_W s w))).testBit x)) 7 = 0 := bm_0 fun x _ => by
                cases z : (rch (mps (y_W s w) (y_W s w) 0) i).testBit x with
                | false => rfl
                | true =>
                  obtain ⟨f, hf, e⟩ := (orb_iff hG hin).mp z
                  have hx : x < gn (y_W s w) := by rw [← e]; exact hf.1.1 i hin
                  have h9 := st_orb hf hin
                  rw [e] at h9
                  rw [bm_bit, decide_eq_true hx, bq_t (show (st (y_W s w)).1 x = j by rw [h9]; exact hci)]; rfl
              rw [this]; rfl
            refine ⟨fun _ => ?_, fun z => absurd eo z⟩
            have mid : ∀ r3 x, x + r3 = (st (y_W s w)).2.1 → ∀ m1, CR (qs s 0) m1 → fC m m1 → WP g gr (d + 14) mL_cells 0 0 177 [.ref 1, .int (nI w), .int (nI (gn (y_W s w))), .int (nI (bm (fun v => decide ((st (y_W s w)).1 v < j + 1)) (gn (y_W s w)))), .int (nI ((st (y_W s w)).2.1)), .int (nI (gc (y_W s w) (vi (st (y_W s w)).1 (gn (y_W s w)) j))), .int (nI (tgm (st (y_W s w)).1 (gn (y_W s w)) (j + 1))), .int (nI j), .int (nI (bm (fun v => (st (y_W s w)).1 v == j) (gn (y_W s w)))), .int (nI (vi (st (y_W s w)).1 (gn (y_W s w)) j)), .int (nI i), .int (nI x), .retAddr 0] [] (mk m1) Q := by
              intro r3
              induction r3 with
              | zero =>
                intro x hx m1 c1 f1
                exact b_L_cells_177 (pk_le ((st (y_W s w)).2.1) x (fun _ => next m1 c1 f1) (fun z => by omega))
              | succ r3 ih3 =>
                intro x hx m1 c1 f1
                have hxq : x < (st (y_W s w)).2.1 := by omega
                have kin : ∀ r4 k, k + r4 = 4 → 1 ≤ k → ∀ m1, CR (qs s 0) m1 → fC m m1 → WP g gr (d + 14) mL_cells 0 0 187 [.ref 1, .int (nI w), .int (nI (gn (y_W s w))), .int (nI (bm (fun v => decide ((st (y_W s w)).1 v < j + 1)) (gn (y_W s w)))), .int (nI ((st (y_W s w)).2.1)), .int (nI (gc (y_W s w) (vi (st (y_W s w)).1 (gn (y_W s w)) j))), .int (nI (tgm (st (y_W s w)).1 (gn (y_W s w)) (j + 1))), .int (nI j), .int (nI (bm (fun v => (st (y_W s w)).1 v == j) (gn (y_W s w)))), .int (nI (vi (st (y_W s w)).1 (gn (y_W s w)) j)), .int (nI i), .int (nI x), .int (nI k)] [] (mk m1) Q := by
                  intro r4
                  induction r4 with
                  | zero =>
                    intro k hk hk1 m1 c1 f1
                    refine b_L_cells_187 (pk_le 4 k (fun _ => ?_) (fun z => by omega))
                    rw [nI_1]
                    exact ih3 (x + 1) (by omega) m1 c1 f1
                  | succ r4 ih4 =>
                    intro k hk hk1 m1 c1 f1
                    refine b_L_cells_187 (pk_le 4 k (fun z => by omega) (fun _ => ?_))
                    refine hcell x hxq m1 _ c1 (fun m2 c2 f2 => b_L_cells_204 ?_)
                    refine k_seen (s := s) (by omega) hs hw hin (bm_31 (by omega)) (by omega) c2 (fun m3 c3 f3 => b_L_cells_209 ?_)
                    refine hcell x hxq m3 _ c3 (fun m4 c4 f4 => b_L_cells_220 ?_)
                    refine k_seen (s := s) (by omega) hs hw x1 (bm_31 (by omega)) (by omega) c4 (fun m5 c5 f5 => b_L_cells_225 ?_)
                    have es : fb_ct (snb (y_W s w) i (bm (fun v => (st (y_W s w)).1 v == x) (gn (y_W s w))) k) (gn (y_W s w)) = fb_ct (snb (y_W s w) (vi (st (y_W s w)).1 (gn (y_W s w)) j) (bm (fun v => (st (y_W s w)).1 v == x) (gn (y_W s w))) k) (gn (y_W s w)) := by
                      rw [snb_cell hG.1 hk1, snb_cell hG.1 hk1]
                      exact st_see hG hin x1 (by rw [hci, x2]) (by omega) hk1 (by omega)
                    refine ⟨fun _ => ?_, fun z => absurd (congrArg nI es) z⟩
                    rw [nI_1]
                    exact ih4 (k + 1) (by omega) (by omega) m5 c5 (fC_trans f1 (fC_trans f2 (fC_trans f3 (fC_trans f4 f5))))
                exact b_L_cells_177 (pk_le ((st (y_W s w)).2.1) x (fun z => by omega) (fun _ => kin 3 1 rfl (Nat.le_refl _) m1 c1 f1))
            exact mid ((st (y_W s w)).2.1) 0 (Nat.zero_add _) m3 c3 (fC_trans f1 (fC_trans f2 f3))
          · rw [if_neg hb]
            exact ⟨fun y => absurd rfl y, fun _ => next m1 c1 f1⟩
      refine b_L_cells_26 (pk_le ((st (y_W s w)).2.1) j (fun z => by omega) (fun _ => ?_))
      refine hcell j hjq m1 _ c1 (fun m2 c2 f2 => b_L_cells_40 ?_)
      have hne : bm (fun v => (st (y_W s w)).1 v == j) (gn (y_W s w)) ≠ 0 := bm_ne0 x1 (bq_t x2)
      have hne2 : ¬ nI (bm (fun v => (st (y_W s w)).1 v == j) (gn (y_W s w))) = 0 := fun z => hne ((nI_eq (bm_31 (by omega)) (by decide)).mp z)
      refine ⟨fun z => absurd z hne2, fun _ => ?_⟩
      have hdis : nI (bm (fun v => decide ((st (y_W s w)).1 v < j)) (gn (y_W s w))) &&& nI (bm (fun v => (st (y_W s w)).1 v == j) (gn (y_W s w))) = 0 := by
        rw [fa_and, bm_and, bm_0 (fun i _ => by
          by_cases z : (st (y_W s w)).1 i = j
          · rw [decide_eq_false (by omega)]; rfl
          · rw [bq_f z]; cases decide ((st (y_W s w)).1 i < j) <;> rfl)]
        rfl
      refine ⟨fun z => absurd hdis z, fun _ => ?_⟩
      rw [tz_vi h7 (hex j hjq)]
      refine hcol _ x1 m2 _ c2 (fun m3 c3 f3 => b_L_cells_68 ?_)
      have hle : l ≤ nI (gc (y_W s w) (vi (st (y_W s w)).1 (gn (y_W s w)) j)) := by
        have h10 := hG.1.1 (vi (st (y_W s w)).1 (gn (y_W s w)) j)
        rcases hl with ⟨-, hl⟩ | ⟨h0, hl⟩
        · rw [hl, Int32.le_iff_toInt_le, nI_toInt (show gc (y_W s w) (vi (st (y_W s w)).1 (gn (y_W s w)) j) < 2 ^ 31 by omega), show (-1 : Int32).toInt = -1 from by decide]
          omega
        · obtain ⟨y1, y2⟩ := vi_spec (hex (j - 1) (by omega))
          rw [hl]
          exact nI_le (st_col hG y1 x1 (by omega)) (by omega)
      refine ⟨fun _ => ?_, fun z => absurd hle z⟩
      refine hcol _ x1 m3 _ c3 (fun m4 c4 f4 => b_L_cells_82 ?_)
      have eall : nI (bm (fun v => decide ((st (y_W s w)).1 v < j)) (gn (y_W s w))) ||| nI (bm (fun v => (st (y_W s w)).1 v == j) (gn (y_W s w))) = nI (bm (fun v => decide ((st (y_W s w)).1 v < j + 1)) (gn (y_W s w))) := by
        rw [fa_or, bm_or]
        congr 1
        refine bm_cong fun v _ => ?_
        rw [Bool.eq_iff_iff, Bool.or_eq_true, beq_iff_eq, decide_eq_true_iff, decide_eq_true_iff]
        omega
      have esz : fBits (nI (bm (fun v => (st (y_W s w)).1 v == j) (gn (y_W s w)))) = nI (cz (st (y_W s w)).1 (gn (y_W s w)) j) := i_bm h7
      have hcz := cz_le (st (y_W s w)).1 (gn (y_W s w)) j
      have fin := key (gn (y_W s w) - (vi (st (y_W s w)).1 (gn (y_W s w)) j + 1)) (vi (st (y_W s w)).1 (gn (y_W s w)) j + 1) (by omega) (Nat.lt_succ_self _) m4 c4 (fC_trans f1 (fC_trans f2 (fC_trans f3 f4)))
      rw [eall, esz, nI_1]
      have keep : ¬ (1 < cz (st (y_W s w)).1 (gn (y_W s w)) j ∧ (tg (st (y_W s w)).1 (gn (y_W s w)) j = 0 ∨ cz (st (y_W s w)).1 (gn (y_W s w)) j < cz (st (y_W s w)).1 (gn (y_W s w)) (tg (st (y_W s w)).1 (gn (y_W s w)) j - 1))) → WP g gr (d + 14) mL_cells 0 0 126 [.ref 1, .int (nI w), .int (nI (gn (y_W s w))), .int (nI (bm (fun v => decide ((st (y_W s w)).1 v < j + 1)) (gn (y_W s w)))), .int (nI ((st (y_W s w)).2.1)), .int (nI (gc (y_W s w) (vi (st (y_W s w)).1 (gn (y_W s w)) j))), .int (nI (tgm (st (y_W s w)).1 (gn (y_W s w)) j)), .int (nI j), .int (nI (bm (fun v => (st (y_W s w)).1 v == j) (gn (y_W s w)))), .int (nI (vi (st (y_W s w)).1 (gn (y_W s w)) j)), .int (nI (vi (st (y_W s w)).1 (gn (y_W s w)) j + 1)), .retAddr 0, .retAddr 0] [] (mk m4) Q := fun z => by
        rw [tgm_keep z] at fin; exact fin
      have put : (1 < cz (st (y_W s w)).1 (gn (y_W s w)) j ∧ (tg (st (y_W s w)).1 (gn (y_W s w)) j = 0 ∨ cz (st (y_W s w)).1 (gn (y_W s w)) j < cz (st (y_W s w)).1 (gn (y_W s w)) (tg (st (y_W s w)).1 (gn (y_W s w)) j - 1))) → WP g gr (d + 14) mL_cells 0 0 126 [.ref 1, .int (nI w), .int (nI (gn (y_W s w))), .int (nI (bm (fun v => decide ((st (y_W s w)).1 v < j + 1)) (gn (y_W s w)))), .int (nI ((st (y_W s w)).2.1)), .int (nI (gc (y_W s w) (vi (st (y_W s w)).1 (gn (y_W s w)) j))), .int (nI (bm (fun v => (st (y_W s w)).1 v == j) (gn (y_W s w)))), .int (nI j), .int (nI (bm (fun v => (st (y_W s w)).1 v == j) (gn (y_W s w)))), .int (nI (vi (st (y_W s w)).1 (gn (y_W s w)) j)), .int (nI (vi (st (y_W s w)).1 (gn (y_W s w)) j + 1)), .retAddr 0, .retAddr 0] [] (mk m4) Q := fun z => by
        rw [tgm_set z] at fin; exact fin
      refine pk_le (cz (st (y_W s w)).1 (gn (y_W s w)) j) 1 (fun z => keep (fun y => by omega)) (fun z => ?_)
      have htl := tgm_lt (c := (st (y_W s w)).1) (n := gn (y_W s w)) (q := j) h7
      refine pk_eq (tgm (st (y_W s w)).1 (gn (y_W s w)) j) 0 (fun y => put ⟨z, Or.inl (tgm_0.mp y)⟩) (fun y => ?_)
      have h0 : tg (st (y_W s w)).1 (gn (y_W s w)) j ≠ 0 := fun q => y (tgm_0.mpr q)
      rw [tgm_n h7 h0]
      have hcz2 := cz_le (st (y_W s w)).1 (gn (y_W s w)) (tg (st (y_W s w)).1 (gn (y_W s w)) j - 1)
      exact pk_le (cz (st (y_W s w)).1 (gn (y_W s w)) (tg (st (y_W s w)).1 (gn (y_W s w)) j - 1)) (cz (st (y_W s w)).1 (gn (y_W s w)) j) (fun q => keep (fun p => by have := p.2; omega)) (fun q => put ⟨z, Or.inr q⟩)
  refine b_L_cells_0 (y_graph_n (sOK_qs hs t) hw g gr (d + 13) m _ (by omega) hc (fun m2 c2 f2 => b_L_cells_6 ?_))
  refine y_start_n (s := qs s 0) (sOK_qs hs 0) hw g gr (d + 13) m2 _ (by omega) c2 (fun m3 c3 f3 => b_L_cells_15 ?_)
  have := outer ((st (y_W s w)).2.1) 0 (Nat.zero_add _) (-1) m3 (Or.inl ⟨rfl, rfl⟩) c3 (fC_trans f2 f3)
  rw [bm_0 (fun i _ => decide_eq_false (Nat.not_lt_zero _))] at this
  exact this
end ZLs
