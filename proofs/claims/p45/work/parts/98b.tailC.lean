/-! the law behind its text: rows, degrees, numbers -/
theorem lk_z (x : Nat) : lk 0 x = !(x == 0) := if_pos rfl
theorem ct3 {f : Nat → Nat} (h : ∀ b, f b < 4) : ∀ n, fb_ct (fun b => lk 0 (f b)) n = fb_ct (fun b => lk 1 (f b)) n + fb_ct (fun b => lk 2 (f b)) n + fb_ct (fun b => lk 3 (f b)) n := by
  intro n
  induction n with
  | zero => rfl
  | succ n ih =>
    rw [fb_ct_succ, fb_ct_succ, fb_ct_succ, fb_ct_succ, ih]
    have h4 := h n
    have h5 : f n = 0 ∨ f n = 1 ∨ f n = 2 ∨ f n = 3 := by omega
    rcases h5 with e | e | e | e <;> (rw [e]; simp [lk]) <;> omega
theorem i_bits10 : ∀ a, a < 1024 → fBits (nI a) = nI (fb_ct a.testBit 10) := by decide +kernel
theorem q0_usd (G : Gr) : fb_ct (usd (gc G) (gn G)) 10 = q0 G := fb_ct_cong fun k _ => by
  rw [Bool.eq_iff_iff, usd_iff, oc_iff]
theorem row_7 {G : Gr} (hG : gWF G) (v : Nat) : bm (fun u => lk 0 (gk G v u)) 7 = bm (fun u => lk 0 (gk G v u)) (gn G) := by
  have h7 := hG.2.1.2
  refine bits_eq (bm_lt _ 7) (Nat.lt_of_lt_of_le (bm_lt _ _) (Nat.pow_le_pow_right (by decide) h7)) (fun i hi => ?_)
  rw [bm_bit, bm_bit, decide_eq_true hi]
  by_cases z : i < gn G
  · rw [decide_eq_true z]
  · have e : gk G v i = 0 := by rw [hG.1.2.2.1]; exact hG.2.2.2 i v (by omega)
    rw [decide_eq_false z, e]; rfl
section ZLt
variable {nm : String} {g : zG} {gr : Bool} {d : Nat} {m : zm} {Q : Option Value → zH → Prop} {s : Sg}

theorem t_316 (hd : 40 ≤ d) (hs : sOK s) {a : Nat} (ha : a + 1 < 2 ^ 31) (hN : g_N g < 2 ^ 31) (hD : m.1 810 1 = nI a) (hc : CR (qs s 0) m) (K : ∀ m, Q (some (.int 1)) (mk m)) : WP g gr (d + 17) (mL_law nm) 0 0 316 [.retAddr 0, .ref 810, .ref 1, .int (nI (gn (y_W s 0))), .retAddr 0, .retAddr 0, .int (nI (mxl (y_W s 0) (gn (y_W s 0)))), .retAddr 0, .retAddr 0, .retAddr 0, .retAddr 0, .retAddr 0, .retAddr 0, .retAddr 0, .retAddr 0, .retAddr 0] [.int (nI (mxl (y_W s 0) (gn (y_W s 0))))] (mk m) Q := by
  refine b_L_law_316 ⟨fun z => absurd rfl z, fun _ => ?_⟩
  refine k_lcells (s := s) (t := 0) (w := 0) (by omega) hs (by decide) hc (fun m1 c1 f1 => b_L_law_326 ⟨fun z => absurd z (by decide), fun _ => ?_⟩)
  refine k_lname (s := s) (t := 0) (w := 0) (by omega) hs (by decide) c1 (fun m2 c2 f2 => ?_)
  exact t_334 hd hs ha hN ((congrFun ((fC_trans f1 f2) 810 (Nat.le_refl _)).1 1).trans hD) c2 K

theorem t_96 (hd : 40 ≤ d) (hs : sOK s) {a : Nat} (ha : a + 1 < 2 ^ 31) (hN : g_N g < 2 ^ 31) (hD : m.1 810 1 = nI a) (hc : CR (qs s 0) m) (K : ∀ m, Q (some (.int 1)) (mk m)) : WP g gr (d + 17) (mL_law nm) 0 0 96 [.retAddr 0, .ref 810, .ref 1, .int (nI (gn (y_W s 0))), .int (0), .int (0), .int (0), .int (0), .retAddr 0, .retAddr 0, .retAddr 0, .retAddr 0, .retAddr 0, .retAddr 0, .retAddr 0, .retAddr 0] [] (mk m) Q := by
  have hG := hs.1 0 (by decide)
  have h7 := hG.2.1.2
  have hk4 := hG.1.2.1
  have hsym := hG.1.2.2.1
  have hdg : ∀ v, dgr (y_W s 0) v ≤ 7 := fun v => fb_ct_le _ 7
  have hsum := sm_bd (f := dgr (y_W s 0)) (n := gn (y_W s 0)) (B := 7) (fun v _ => hdg v)
  have hsum2 : (gn (y_W s 0)) * 7 ≤ 7 * 7 := Nat.mul_le_mul_right 7 h7
  have hmx : ∀ v, mxl (y_W s 0) v ≤ 7 := by
    intro v
    induction v with
    | zero => exact Nat.zero_le _
    | succ v ih =>
      show (if mxl (y_W s 0) v < dgr (y_W s 0) v then dgr (y_W s 0) v else mxl (y_W s 0) v) ≤ 7
      have := hdg v
      split <;> omega
  have key : ∀ r v, v + r = gn (y_W s 0) → ∀ m1, CR (qs s 0) m1 → fC m m1 → WP g gr (d + 17) (mL_law nm) 0 0 96 [.retAddr 0, .ref 810, .ref 1, .int (nI (gn (y_W s 0))), .int (nI (fb_sm (dgr (y_W s 0)) (v))), .int (nI (bm (usd (gc (y_W s 0)) (v)) 10)), .int (nI (mxl (y_W s 0) (v))), .int (nI (v)), .retAddr 0, .retAddr 0, .retAddr 0, .retAddr 0, .retAddr 0, .retAddr 0, .retAddr 0, .retAddr 0] [] (mk m1) Q := by
    intro r
    induction r with
    | zero =>
      intro v hv m1 c1 f1
      have e : v = gn (y_W s 0) := by omega
      subst e
      refine b_L_law_96 (pk_le (gn (y_W s 0)) (gn (y_W s 0)) (fun _ => ?_) (fun z => by omega))
      have e1 : nI (fb_sm (dgr (y_W s 0)) (gn (y_W s 0))) / (2 : Int32) = nI (fb_sm (dgr (y_W s 0)) (gn (y_W s 0)) / 2) := by
        rw [show (2 : Int32) = nI 2 from rfl, pk_div (by omega) (by decide) (by decide)]
      have e2 : fBits (nI (bm (usd (gc (y_W s 0)) (gn (y_W s 0))) 10)) = nI (q0 (y_W s 0)) := by
        rw [i_bits10 _ (bm_lt _ 10), bm_ct (Nat.le_refl 10), q0_usd]
      refine y_graph_links (s := qs s 0) (sOK_qs hs 0) (w := 0) (by decide) g gr (d + 16) m1 _ (by omega) c1 (fun m2 c2 f2 => b_L_law_289 ?_)
      rw [e1]
      refine ⟨fun z => absurd rfl z, fun _ => ?_⟩
      refine y_graph_colours (s := qs s 0) (sOK_qs hs 0) (w := 0) (by decide) g gr (d + 16) m2 _ (by omega) c2 (fun m3 c3 f3 => b_L_law_302 ?_)
      rw [e2]
      refine ⟨fun z => absurd rfl z, fun _ => ?_⟩
      refine y_graph_most (s := qs s 0) (sOK_qs hs 0) (w := 0) (by decide) g gr (d + 16) m3 _ (by omega) c3 (fun m4 c4 f4 => ?_)
      exact t_316 hd hs ha hN ((congrFun ((fC_trans f1 (fC_trans f2 (fC_trans f3 f4))) 810 (Nat.le_refl _)).1 1).trans hD) c4 K
    | succ r ih =>
      intro v hv m1 c1 f1
      have hvn : v < gn (y_W s 0) := by omega
      have kin : ∀ r2 k, k + r2 = 4 → 1 ≤ k → ∀ m1, CR (qs s 0) m1 → fC m m1 → WP g gr (d + 17) (mL_law nm) 0 0 184 [.retAddr 0, .ref 810, .ref 1, .int (nI (gn (y_W s 0))), .int (nI (fb_sm (dgr (y_W s 0)) (v))), .int (nI (bm (usd (gc (y_W s 0)) (v)) 10)), .int (nI (mxl (y_W s 0) (v))), .int (nI (v)), .int (nI (bm (fun u => lk 0 (gk (y_W s 0) v u)) (gn (y_W s 0)))), .int (nI (fb_sm (fun j => fb_ct (fun b => lk (j + 1) (gk (y_W s 0) v b)) (gn (y_W s 0))) (k - 1))), .int (nI (k)), .retAddr 0, .retAddr 0, .retAddr 0, .retAddr 0, .retAddr 0] [] (mk m1) Q := by
        intro r2
        induction r2 with
        | zero =>
          intro k hk hk1 m1 c1 f1
          have e : k = 4 := by omega
          subst e
          have e3 : fb_sm (fun j => fb_ct (fun b => lk (j + 1) (gk (y_W s 0) v b)) (gn (y_W s 0))) (4 - 1) = fb_ct (fun b => lk (0) (gk (y_W s 0) v b)) (gn (y_W s 0)) := by
            rw [ct3 (f := fun b => gk (y_W s 0) v b) (fun b => hk4 v b) (gn (y_W s 0))]
            show 0 + fb_ct (fun b => lk (1) (gk (y_W s 0) v b)) (gn (y_W s 0)) + fb_ct (fun b => lk (2) (gk (y_W s 0) v b)) (gn (y_W s 0)) + fb_ct (fun b => lk (3) (gk (y_W s 0) v b)) (gn (y_W s 0)) = _
            rw [Nat.zero_add]
          have e4 : dgr (y_W s 0) v = fb_ct (fun b => lk (0) (gk (y_W s 0) v b)) (gn (y_W s 0)) := lk_n hG 0 v
          refine b_L_law_184 (pk_le 4 4 (fun _ => ?_) (fun z => by omega))
          refine y_row (s := qs s 0) (sOK_qs hs 0) (w := 0) (by decide) hvn g gr (d + 16) m1 _ (by omega) c1 (fun m2 c2 f2 => b_L_law_217 ⟨fun z => absurd (congrArg nI (row_7 hG v)) z, fun _ => ?_⟩)
          refine y_degree (s := qs s 0) (sOK_qs hs 0) (w := 0) (by decide) hvn (k := 0) (by decide) g gr (d + 16) m2 _ (by omega) c2 (fun m3 c3 f3 => b_L_law_230 ⟨fun z => absurd (congrArg nI e3.symm) z, fun _ => ?_⟩)
          have e5 : nI (fb_sm (fun j => fb_ct (fun b => lk (j + 1) (gk (y_W s 0) v b)) (gn (y_W s 0))) (4 - 1)) = fBits (nI (bm (fun u => lk 0 (gk (y_W s 0) v u)) (gn (y_W s 0)))) := by rw [i_bm h7, e3]
          refine ⟨fun _ => ?_, fun z => absurd e5 z⟩
          refine y_colour (s := qs s 0) (sOK_qs hs 0) (w := 0) (by decide) hvn g gr (d + 16) m3 _ (by omega) c3 (fun m4 c4 f4 => b_L_law_273 ?_)
          have := ih (v + 1) (by omega) m4 c4 (fC_trans f1 (fC_trans f2 (fC_trans f3 f4)))
          rw [fb_sm_succ, e4, ← usd_add (a := gc (y_W s 0)) (c := v) (n := 10) (hG.1.1 v)] at this
          have e6 : fMax (nI (mxl (y_W s 0) v)) (nI (fb_sm (fun j => fb_ct (fun b => lk (j + 1) (gk (y_W s 0) v b)) (gn (y_W s 0))) (4 - 1))) = nI (mxl (y_W s 0) (v + 1)) := by
            have h8 := hdg v
            have h9 := hmx v
            rw [e3, i_max _ _ (by omega) (by omega), ← e4]
            rfl
          have h10 := hG.1.1 v
          rw [e6, e3, nI_add, nI_1]
          have e7 : (1 : Int32) <<< (nI (gc (y_W s 0) v) &&& 31) = nI (2 ^ gc (y_W s 0) v) := i_sh1 (by omega)
          have e8 : (1 : Int32) <<< (nI (gc (y_W (qs s 0) 0) v) &&& 31) = nI (2 ^ gc (y_W s 0) v) := e7
          rw [e8]
          exact this
        | succ r2 ih2 =>
          intro k hk hk1 m1 c1 f1
          refine b_L_law_184 (pk_le 4 k (fun z => by omega) (fun _ => ?_))
          refine y_degree (s := qs s 0) (sOK_qs hs 0) (w := 0) (by decide) hvn (k := k) (by omega) g gr (d + 16) m1 _ (by omega) c1 (fun m2 c2 f2 => b_L_law_201 ?_)
          have := ih2 (k + 1) (by omega) (by omega) m2 c2 (fC_trans f1 f2)
          rw [show k + 1 - 1 = (k - 1) + 1 by omega, fb_sm_succ, show k - 1 + 1 = k by omega] at this
          rw [nI_1, nI_add]
          exact this
      have ws : ∀ r2 w, w + r2 = gn (y_W s 0) → ∀ m1, CR (qs s 0) m1 → fC m m1 → WP g gr (d + 17) (mL_law nm) 0 0 111 [.retAddr 0, .ref 810, .ref 1, .int (nI (gn (y_W s 0))), .int (nI (fb_sm (dgr (y_W s 0)) (v))), .int (nI (bm (usd (gc (y_W s 0)) (v)) 10)), .int (nI (mxl (y_W s 0) (v))), .int (nI (v)), .int (nI (bm (fun u => lk 0 (gk (y_W s 0) v u)) (w))), .int (0), .int (nI (w)), .retAddr 0, .retAddr 0, .retAddr 0, .retAddr 0, .retAddr 0] [] (mk m1) Q := by
        intro r2
        induction r2 with
        | zero =>
          intro w hw m1 c1 f1
          have e : w = gn (y_W s 0) := by omega
          subst e
          refine b_L_law_111 (pk_le (gn (y_W s 0)) (gn (y_W s 0)) (fun _ => ?_) (fun z => by omega))
          exact kin 3 1 rfl (Nat.le_refl _) m1 c1 f1
        | succ r2 ih2 =>
          intro w hw m1 c1 f1
          have hwn : w < gn (y_W s 0) := by omega
          refine b_L_law_111 (pk_le (gn (y_W s 0)) w (fun z => by omega) (fun _ => ⟨fun z => ?_, fun z => ?_⟩))
          · have hne : v ≠ w := fun y => z (by rw [y])
            refine y_kind (s := qs s 0) (sOK_qs hs 0) (w := 0) (by decide) hvn hwn hne g gr (d + 16) m1 _ (by omega) c1 (fun m2 c2 f2 => b_L_law_136 ?_)
            refine y_kind (s := qs s 0) (sOK_qs hs 0) (w := 0) (by decide) hwn hvn (fun y => hne y.symm) g gr (d + 16) m2 _ (by omega) c2 (fun m3 c3 f3 => b_L_law_145 ⟨fun _ => ?_, fun y => absurd (congrArg nI (hsym v w)) y⟩)
            refine y_kind (s := qs s 0) (sOK_qs hs 0) (w := 0) (by decide) hvn hwn hne g gr (d + 16) m3 _ (by omega) c3 (fun m4 c4 f4 => b_L_law_161 ?_)
            have := ih2 (w + 1) (by omega) m4 c4 (fC_trans f1 (fC_trans f2 (fC_trans f3 f4)))
            have hkw := hk4 v w
            have ez : nI (gk (y_W s 0) v w) = 0 ↔ gk (y_W s 0) v w = 0 := nI_eq (b := 0) (by omega) (by decide)
            refine ⟨fun y => ?_, fun y => ?_⟩
            · have y := ez.mp y
              rw [bm_skip (p := fun u => lk 0 (gk (y_W s 0) v u)) (v := w) (by show lk 0 (gk (y_W s 0) v w) = false; rw [y]; rfl)] at this
              rw [show (0 : Int32) = nI 0 from rfl, fa_or, Nat.or_zero, nI_1]
              exact this
            · have y : ¬ gk (y_W s 0) v w = 0 := fun q => y (ez.mpr q)
              rw [← bm_put (p := fun u => lk 0 (gk (y_W s 0) v u)) (v := w) (by show lk 0 (gk (y_W s 0) v w) = true; rw [lk_z, bq_f y]; rfl)] at this
              rw [i_sh1 (by omega), fa_or, nI_1]
              exact this
          · have e : w = v := (nI_eq (by omega) (by omega)).mp z
            have := ih2 (w + 1) (by omega) m1 c1 f1
            rw [bm_skip (p := fun u => lk 0 (gk (y_W s 0) v u)) (v := w) (by show lk 0 (gk (y_W s 0) v w) = false; rw [e, hG.1.2.2.2]; rfl)] at this
            rw [nI_1]
            exact this
      exact b_L_law_96 (pk_le (gn (y_W s 0)) v (fun z => by omega) (fun _ => ws (gn (y_W s 0)) 0 (Nat.zero_add _) m1 c1 f1))
  have := key (gn (y_W s 0)) 0 (Nat.zero_add _) m hc (fC_refl m)
  rw [usd_0] at this
  exact this

theorem t_59 (hd : 40 ≤ d) (hs : sOK s) (h2 : 2 ≤ gn (y_W s 0)) {a : Nat} (ha : a + 1 < 2 ^ 31) (hN : g_N g < 2 ^ 31) (hD : m.1 810 1 = nI a) (hc : CR (qs s 0) m) (K : ∀ m, Q (some (.int 1)) (mk m)) : WP g gr (d + 17) (mL_law nm) 0 0 59 [.retAddr 0, .ref 810, .ref 1, .retAddr 0, .retAddr 0, .retAddr 0, .retAddr 0, .retAddr 0, .retAddr 0, .retAddr 0, .retAddr 0, .retAddr 0, .retAddr 0, .retAddr 0, .retAddr 0, .retAddr 0] [.int (nI (gn (y_W s 0)))] (mk m) Q := by
  have hG := hs.1 0 (by decide)
  have h7 := hG.2.1.2
  refine b_L_law_59 ⟨fun z => absurd z (nI_nlt (a := gn (y_W s 0)) (b := 2) h2 (by omega)), fun _ => ?_⟩
  refine y_trouble (s := qs s 0) (sOK_qs hs 0) g gr (d + 16) m _ (by omega) hc (fun m1 c1 f1 => b_L_law_78 ⟨fun z => absurd rfl z, fun _ => ?_⟩)
  refine y_graph_n (s := qs s 0) (sOK_qs hs 0) (w := 0) (by decide) g gr (d + 16) m1 _ (by omega) c1 (fun m2 c2 f2 => b_L_law_87 ⟨fun _ => ?_, fun z => absurd rfl z⟩)
  exact t_96 hd hs ha hN ((congrFun ((fC_trans f1 f2) 810 (Nat.le_refl _)).1 1).trans hD) c2 K
end ZLt
