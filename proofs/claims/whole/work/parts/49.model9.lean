/-! the model: by which round two graphs are told apart -/
theorem df_eq {a b : Nat} (ha : a < 2 ^ 31) (hb : b < 2 ^ 31) : nI a - nI b = 0 ↔ a = b := by
  constructor
  · intro h
    have : nI a = nI b := by
      have e := Int32.sub_add_cancel (nI a) (nI b)
      rw [h, Int32.zero_add] at e
      exact e.symm
    exact (nI_eq ha hb).mp this
  · intro h; rw [h, Int32.sub_self]
theorem df_00 (x y : Int32) : (x - y + 0) - 0 = x - y := by rw [Int32.add_zero, Int32.sub_zero]
theorem df_10 (a b : Nat) : (nI a - nI b + 1) - 0 = nI (a + 1) - nI b := by
  rw [Int32.sub_zero, ← nI_1, Int32.sub_eq_add_neg, Int32.sub_eq_add_neg, Int32.add_assoc, Int32.add_assoc, Int32.add_comm (-nI b)]
theorem df_01 (a b : Nat) : (nI a - nI b + 0) - 1 = nI a - nI (b + 1) := by
  rw [Int32.add_zero, ← nI_1, Int32.sub_eq_add_neg, Int32.sub_eq_add_neg, Int32.sub_eq_add_neg, Int32.neg_add, Int32.sub_eq_add_neg, Int32.add_assoc]
theorem df_11 (a b : Nat) : (nI a - nI b + 1) - 1 = nI (a + 1) - nI (b + 1) := by
  have h1 := df_10 a b
  rw [Int32.sub_zero] at h1
  rw [h1]
  have h2 := df_01 (a + 1) b
  rw [Int32.add_zero] at h2
  exact h2
section ZMo
variable {g : zG} {gr : Bool} {e : Nat} {m : zm} {Q : Option Value → zH → Prop}
theorem d_areColoursAlike {G H : Gr} (hG : gWF G) (hH : gWF H) (hGH : gn G = gn H) (hp : pD m G) (hq : pO m H) (K1 : clk G H → Q (some (.int 1)) (mk m)) (K0 : ¬ clk G H → Q (some (.int 0)) (mk m)) : Ok g gr e mX10_areColoursAlike 0 0 [.ref 810] (mk m) Q := by
  have h7 := hG.2.1.2
  refine b_X10_areColoursAlike_0 (d := e) (up_to (n := 10) (P := fun k => (∀ j, j < k → fb_ct (fun v => gc G v == j) (gn G) = fb_ct (fun v => gc H v == j) (gn G)) → WP g gr e mX10_areColoursAlike 0 0 2 [.ref 810, .int (nI k), .retAddr 0, .retAddr 0] [] (mk m) Q) ?_ ?_ 0 (Nat.zero_le _) (fun j hj => absurd hj (Nat.not_lt_zero _)))
  · intro hk
    exact b_X10_areColoursAlike_2 (d := e) (pk_le 10 10 (fun _ => K1 hk) (fun z => absurd z (Nat.lt_irrefl _)))
  · intro k hk ih hj
    refine b_X10_areColoursAlike_2 (d := e) (pk_le 10 k (fun z => by omega) (fun _ => ?_))
    have c1 := fb_ct_le (fun v => gc G v == k) (gn G)
    have c2 := fb_ct_le (fun v => gc H v == k) (gn G)
    have go := up_to (n := gn G) (P := fun v => WP g gr e mX10_areColoursAlike 0 0 12 [.ref 810, .int (nI k), .int (nI (fb_ct (fun v => gc G v == k) v) - nI (fb_ct (fun v => gc H v == k) v)), .int (nI v)] [] (mk m) Q) ?_ ?_ 0 (Nat.zero_le _)
    · have e0 : nI (fb_ct (fun v => gc G v == k) 0) - nI (fb_ct (fun v => gc H v == k) 0) = 0 := Int32.sub_self _
      rw [e0] at go
      exact go
    · refine b_X10_areColoursAlike_12 (d := e) (pk_le (gn G) (gn G) (fun _ => ?_) (fun z => absurd z (Nat.lt_irrefl _)) hp.1)
      rw [df_eq (by omega) (by omega), nI_1]
      refine ⟨fun z => ih fun j hj2 => ?_, fun z => K0 fun w => z (w k hk)⟩
      by_cases w : j = k
      · subst w; exact z
      · exact hj j (by omega)
    · intro v hv ihv
      have e1 : fb_ct (fun v => gc G v == k) (v + 1) = fb_ct (fun v => gc G v == k) v + (if (gc G v == k) = true then 1 else 0) := fb_ct_succ _ _
      have e2 : fb_ct (fun v => gc H v == k) (v + 1) = fb_ct (fun v => gc H v == k) v + (if (gc H v == k) = true then 1 else 0) := fb_ct_succ _ _
      have g1 := hG.1.1 v
      have g2 := hH.1.1 v
      refine b_X10_areColoursAlike_12 (d := e) (pk_le (gn G) v (fun z => by omega) (fun _ => ⟨pk_in v 7 (by omega), ?_⟩) hp.1)
      rw [nI_clamp (show v < 2 ^ 31 by omega), hp.2.1 v hv, hq.2.1 v (by omega), nI_eq (by omega) (by omega), nI_eq (by omega) (by omega), df_00, df_10, df_01, df_11, nI_1]
      rw [e1, e2] at ihv
      refine ⟨fun z => ⟨fun w => ?_, fun w => ?_⟩, fun z => ⟨fun w => ?_, fun w => ?_⟩⟩
      · rw [bq_f z, bq_f w] at ihv; exact ihv
      · rw [bq_f z, bq_t w] at ihv; exact ihv
      · rw [bq_t z, bq_f w] at ihv; exact ihv
      · rw [bq_t z, bq_t w] at ihv; exact ihv
theorem d_laysOtherSigns {n q : Nat} {H : Gr} {c : Nat → Nat} (hH : gWF H) (hnH : n = gn H) (hn : m.1 810 21 = nI n) (hp : pO m H) (hE : ∀ v, v < n → m.1 839 v = nI (c v)) (hc : cwf n c q) (K : ∀ m', pSg m' 840 H c → fM [] [840] m m' → Q none (mk m')) : Ok g gr e mX10_laysOtherSigns 0 0 [.ref 810] (mk m) Q := by
  have h7 := hH.2.1.2
  have hq := cwf_le hc
  refine b_X10_laysOtherSigns_0 (d := e) (up_to (n := n) (P := fun v => ∀ m', (∀ u j, u < v → j < 22 → m'.1 840 (22 * u + j) = nI (dg H c u j)) → fM [] [840] m m' → WP g gr e mX10_laysOtherSigns 0 0 2 [.ref 810, .int (nI v), .retAddr 0, .retAddr 0] [] (mk m') Q) ?_ ?_ 0 (Nat.zero_le _) m (fun u j hu => absurd hu (Nat.not_lt_zero _)) (fM_refl _ _ _))
  · intro m' a1 a2
    exact b_X10_laysOtherSigns_2 (d := e) (pk_le n n (fun _ => K m' (fun v j hv hj => a1 v j (by omega) hj) a2) (fun z => absurd z (Nat.lt_irrefl _)) (by rw [fM_2 a2]; exact hn))
  · intro v hv ih m' a1 a2
    refine b_X10_laysOtherSigns_2 (d := e) (pk_le n v (fun z => by omega) (fun _ => ?_) (by rw [fM_2 a2]; exact hn))
    have e22 : (22 : Int32) * nI v = nI (22 * v) := pk_mul 22 v
    refine up_to (n := 22) (P := fun k => ∀ m', (∀ u j, u < v → j < 22 → m'.1 840 (22 * u + j) = nI (dg H c u j)) → (∀ j, j < k → m'.1 840 (22 * v + j) = nI 0) → fM [] [840] m m' → WP g gr e mX10_laysOtherSigns 0 0 12 [.ref 810, .int (nI v), .int (nI k), .retAddr 0] [] (mk m') Q) ?_ ?_ 0 (Nat.zero_le _) m' a1 (fun j hj => absurd hj (Nat.not_lt_zero _)) a2
    · intro m2 b1 b2 b3
      refine b_X10_laysOtherSigns_12 (d := e) (pk_le 22 22 (fun _ => ?_) (fun z => absurd z (Nat.lt_irrefl _)))
      rw [e22, nI_clamp (show 22 * v < 2 ^ 31 by omega), nI_clamp (show v < 2 ^ 31 by omega), fM_1 b3 (a := 839), hE v hv]
      refine ⟨pk_in v 7 (by omega), pk_in (22 * v) 154 (by omega), ?_⟩
      refine up_to (n := n) (P := fun u => ∀ m', (∀ u j, u < v → j < 22 → m'.1 840 (22 * u + j) = nI (dg H c u j)) → (∀ j, j < 22 → m'.1 840 (22 * v + j) = nI (if j = 0 then c v else fb_ct (fun u => decide (0 < gk H v u) && (3 * c u + gk H v u == j)) u)) → fM [] [840] m m' → WP g gr e mX10_laysOtherSigns 0 0 53 [.ref 810, .int (nI v), .int (nI u), .retAddr 0] [] (mk m') Q) ?_ ?_ 0 (Nat.zero_le _) _ (fun u j hu hj => by rw [rI_n (by omega)]; exact b1 u j hu hj) (fun j hj => ?_) (fM_trans b3 fM_r)
      · intro m3 c1 c2 c3
        refine b_X10_laysOtherSigns_53 (d := e) (pk_le n n (fun _ => ?_) (fun z => absurd z (Nat.lt_irrefl _)) (by rw [fM_2 c3]; exact hn))
        rw [nI_1]
        refine ih m3 (fun u j hu hj => ?_) c3
        by_cases z : u = v
        · subst z; rw [hnH] at c2; exact c2 j hj
        · exact c1 u j (by omega) hj
      · intro u hu ih2 m3 c1 c2 c3
        have hku := hH.1.2.1 v u
        have hcu := hc.1 u hu
        have pos : ∀ j, fb_ct (fun u => decide (0 < gk H v u) && (3 * c u + gk H v u == j)) (u + 1) = fb_ct (fun u => decide (0 < gk H v u) && (3 * c u + gk H v u == j)) u + (if (decide (0 < gk H v u) && (3 * c u + gk H v u == j)) = true then 1 else 0) := fun j => fb_ct_succ _ _
        refine b_X10_laysOtherSigns_53 (d := e) (pk_le n u (fun z => by omega) (fun _ => ?_) (by rw [fM_2 c3]; exact hn))
        rw [show (7 : Int32) = nI 7 from rfl, pk_mul, nI_add, nI_clamp (show 7 * v + u < 2 ^ 31 by omega), fM_1 c3 (a := 835), hp.2.2 v u (by omega) (by omega), nI_clamp (show u < 2 ^ 31 by omega), fM_1 c3 (a := 839), hE u hu, show (3 : Int32) = nI 3 from rfl, pk_mul, e22, nI_add, nI_add, nI_clamp (show 22 * v + 3 * c u + gk H v u < 2 ^ 31 by omega), nI_1]
        refine ⟨pk_in (7 * v + u) 49 (by omega), pk_le (gk H v u) 0 (fun z => ?_) (fun z => ⟨pk_in u 7 (by omega), pk_in (22 * v + 3 * c u + gk H v u) 154 (by omega), ?_⟩)⟩
        · refine ih2 m3 c1 (fun j hj => ?_) c3
          rw [c2 j hj, pos j, decide_eq_false (show ¬ 0 < gk H v u by omega)]
          rfl
        · rw [show 22 * v + 3 * c u + gk H v u = 22 * v + (3 * c u + gk H v u) by omega, c2 (3 * c u + gk H v u) (by omega), nI_1, if_neg (show ¬ (3 * c u + gk H v u = 0) by omega)]
          refine ih2 _ (fun x j hx hj => by rw [rI_n (by omega)]; exact c1 x j hx hj) (fun j hj => ?_) (fM_trans c3 fM_r)
          by_cases w : j = 3 * c u + gk H v u
          · rw [w, rI_s, if_neg (show ¬ (3 * c u + gk H v u = 0) by omega), pos, decide_eq_true (show 0 < gk H v u by omega), bq_t rfl]; rfl
          · rw [rI_n (by omega), c2 j hj, pos j, bq_f (fun y => w y.symm), Bool.and_false]
            rfl
      · by_cases z : j = 0
        · rw [z]; show (wI m2 840 (22 * v) _).1 840 (22 * v + 0) = _; rw [Nat.add_zero, rI_s, if_pos rfl]
        · rw [rI_n (by omega), b2 j hj, if_neg z]; rfl
    · intro k hk ih2 m2 b1 b2 b3
      refine b_X10_laysOtherSigns_12 (d := e) (pk_le 22 k (fun z => by omega) (fun _ => ?_))
      rw [e22, nI_add, nI_clamp (show 22 * v + k < 2 ^ 31 by omega), nI_1]
      refine ⟨pk_in (22 * v + k) 154 (by omega), ?_⟩
      refine ih2 _ (fun u j hu hj => by rw [rI_n (by omega)]; exact b1 u j hu hj) (fun j hj => ?_) (fM_trans b3 fM_r)
      by_cases z : j = k
      · subst z; exact rI_s
      · rw [rI_n (by omega)]; exact b2 j (by omega)
theorem d_areSignsAlike {q : Nat} {G H : Gr} {c1 c2 : Nat → Nat} (he : 1 ≤ e) (hG : gWF G) (hH : gWF H) (hGH : gn G = gn H) (hn : m.1 810 21 = nI (gn G)) (hp : pSg m 820 G c1) (hq : pSg m 840 H c2) (w1 : cwf (gn G) c1 q) (w2 : cwf (gn G) c2 q) (K1 : slk G H c1 c2 → Q (some (.int 1)) (mk m)) (K0 : ¬ slk G H c1 c2 → Q (some (.int 0)) (mk m)) : Ok g gr e mX10_areSignsAlike 0 0 [.ref 810] (mk m) Q := by
  obtain ⟨d, rfl⟩ := dn he
  have h7 := hG.2.1.2
  have e22 : ∀ t, (22 : Int32) * nI t = nI (22 * t) := fun t => pk_mul 22 t
  have w2' := w2
  rw [hGH] at w2'
  refine b_X10_areSignsAlike_0 (up_to (n := gn G) (P := fun v => (∀ u, u < v → fb_ct (fun o => sS G c1 o == sS G c1 u) (gn G) = fb_ct (fun o => sS H c2 o == sS G c1 u) (gn G)) → WP g gr (d + 1) mX10_areSignsAlike 0 0 2 [.ref 810, .int (nI v), .retAddr 0, .retAddr 0] [] (mk m) Q) ?_ ?_ 0 (Nat.zero_le _) (fun u hu => absurd hu (Nat.not_lt_zero _)))
  · intro hv
    exact b_X10_areSignsAlike_2 (pk_le (gn G) (gn G) (fun _ => K1 hv) (fun z => absurd z (Nat.lt_irrefl _)) hn)
  · intro v hv ih hu
    have b1 := fb_ct_le (fun o => sS G c1 o == sS G c1 v) (gn G)
    have b2 := fb_ct_le (fun o => sS H c2 o == sS G c1 v) (gn G)
    refine b_X10_areSignsAlike_2 (pk_le (gn G) v (fun z => by omega) (fun _ => ?_) hn)
    have go := up_to (n := gn G) (P := fun o => WP g gr (d + 1) mX10_areSignsAlike 0 0 14 [.ref 810, .int (nI v), .int (nI (fb_ct (fun o => sS G c1 o == sS G c1 v) o) - nI (fb_ct (fun o => sS H c2 o == sS G c1 v) o)), .int (nI o)] [] (mk m) Q) ?_ ?_ 0 (Nat.zero_le _)
    · have e0 : nI (fb_ct (fun o => sS G c1 o == sS G c1 v) 0) - nI (fb_ct (fun o => sS H c2 o == sS G c1 v) 0) = 0 := Int32.sub_self _
      rw [e0] at go
      exact go
    · refine b_X10_areSignsAlike_14 (pk_le (gn G) (gn G) (fun _ => ?_) (fun z => absurd z (Nat.lt_irrefl _)) hn)
      rw [df_eq (by omega) (by omega), nI_1]
      refine ⟨fun z => ih fun j hj2 => ?_, fun z => K0 fun w => z (w v hv)⟩
      by_cases w : j = v
      · subst w; exact z
      · exact hu j (by omega)
    · intro o ho iho
      have e1 : fb_ct (fun o => sS G c1 o == sS G c1 v) (o + 1) = fb_ct (fun o => sS G c1 o == sS G c1 v) o + (if (sS G c1 o == sS G c1 v) = true then 1 else 0) := fb_ct_succ _ _
      have e2 : fb_ct (fun o => sS H c2 o == sS G c1 v) (o + 1) = fb_ct (fun o => sS H c2 o == sS G c1 v) o + (if (sS H c2 o == sS G c1 v) = true then 1 else 0) := fb_ct_succ _ _
      rw [e1, e2] at iho
      refine b_X10_areSignsAlike_14 (pk_le (gn G) o (fun z => by omega) (fun _ => ?_) hn)
      rw [e22, e22]
      refine d_cmpS (Or.inl rfl) (Or.inl rfl) hG hG hp hp w1 w1 ho hv (fun r _ r2 => ?_)
      refine b_X10_areSignsAlike_44 ?_
      rw [e22, e22]
      refine ⟨fun z => ?_, fun z => ?_⟩
      · refine d_cmpS (Or.inr rfl) (Or.inl rfl) hH hG hq hp w2' w1 (by omega) hv (fun r' _ r2' => ?_)
        refine b_X10_areSignsAlike_76 ⟨fun w => ?_, fun w => ?_⟩
        · rw [df_00, nI_1]
          rw [bq_f (fun y => z (r2.mpr y)), bq_f (fun y => w (r2'.mpr y))] at iho; exact iho
        · rw [df_01, nI_1]
          rw [bq_f (fun y => z (r2.mpr y)), bq_t (r2'.mp w)] at iho; exact iho
      · refine d_cmpS (Or.inr rfl) (Or.inl rfl) hH hG hq hp w2' w1 (by omega) hv (fun r' _ r2' => ?_)
        refine b_X10_areSignsAlike_76 ⟨fun w => ?_, fun w => ?_⟩
        · rw [df_10, nI_1]
          rw [bq_t (r2.mp z), bq_f (fun y => w (r2'.mpr y))] at iho; exact iho
        · rw [df_11, nI_1]
          rw [bq_t (r2.mp z), bq_t (r2'.mp w)] at iho; exact iho
theorem d_laysOtherCells {q : Nat} {G H : Gr} {c1 c2 : Nat → Nat} (he : 1 ≤ e) (hG : gWF G) (hH : gWF H) (hGH : gn G = gn H) (hn : m.1 810 21 = nI (gn G)) (hp : pSg m 820 G c1) (hq : pSg m 840 H c2) (w1 : cwf (gn G) c1 q) (w2 : cwf (gn G) c2 q) (hr : ∀ v, v < gn G → m.1 821 v = nI (rd G c1 v)) (hs : slk G H c1 c2) (K : ∀ m', (∀ v, v < gn G → m'.1 839 v = nI (rd H c2 v)) → fM [] [839] m m' → Q none (mk m')) : Ok g gr e mX10_laysOtherCells 0 0 [.ref 810] (mk m) Q := by
  obtain ⟨d, rfl⟩ := dn he
  have h7 := hG.2.1.2
  have e22 : ∀ t, (22 : Int32) * nI t = nI (22 * t) := fun t => pk_mul 22 t
  have w2' := w2
  rw [hGH] at w2'
  obtain ⟨s1, s2⟩ := slk_rd hGH hs
  have hDG := rd_Dn G c1
  have hDH := rd_Dn H c2
  refine b_X10_laysOtherCells_0 (up_to (n := gn G) (P := fun v => ∀ m', (∀ u, u < v → m'.1 839 u = nI (rd H c2 u)) → fM [] [839] m m' → WP g gr (d + 1) mX10_laysOtherCells 0 0 2 [.ref 810, .int (nI v), .retAddr 0] [] (mk m') Q) ?_ ?_ 0 (Nat.zero_le _) m (fun u hu => absurd hu (Nat.not_lt_zero _)) (fM_refl _ _ _))
  · intro m' a1 a2
    exact b_X10_laysOtherCells_2 (pk_le (gn G) (gn G) (fun _ => K m' a1 a2) (fun z => absurd z (Nat.lt_irrefl _)) (by rw [fM_2 a2]; exact hn))
  · intro v hv ih m' a1 a2
    have hj := hDH.2.1 v (by omega)
    obtain ⟨u0, hu0, eu0⟩ := hDG.2.2 (rd H c2 v) (by omega)
    have es0 := (s2 u0 v hu0 hv).mp eu0
    refine b_X10_laysOtherCells_2 (pk_le (gn G) v (fun z => by omega) (fun _ => ?_) (by rw [fM_2 a2]; exact hn))
    refine up_to (n := gn G) (P := fun o => ∀ m', (∀ u, u < v → m'.1 839 u = nI (rd H c2 u)) → (u0 < o → m'.1 839 v = nI (rd H c2 v)) → fM [] [839] m m' → WP g gr (d + 1) mX10_laysOtherCells 0 0 12 [.ref 810, .int (nI v), .int (nI o)] [] (mk m') Q) ?_ ?_ 0 (Nat.zero_le _) m' a1 (fun z => absurd z (Nat.not_lt_zero _)) a2
    · intro m2 b1 b2 b3
      refine b_X10_laysOtherCells_12 (pk_le (gn G) (gn G) (fun _ => ?_) (fun z => absurd z (Nat.lt_irrefl _)) (by rw [fM_2 b3]; exact hn))
      rw [nI_1]
      refine ih m2 (fun u hu => ?_) b3
      by_cases z : u = v
      · subst z; exact b2 hu0
      · exact b1 u (by omega)
    · intro o ho iho m2 b1 b2 b3
      refine b_X10_laysOtherCells_12 (pk_le (gn G) o (fun z => by omega) (fun _ => ?_) (by rw [fM_2 b3]; exact hn))
      rw [e22, e22]
      have p820 : pSg m2 820 G c1 := fun v j hv hj => by rw [fM_1 b3]; exact hp v j hv hj
      have p840 : pSg m2 840 H c2 := fun v j hv hj => by rw [fM_1 b3]; exact hq v j hv hj
      refine d_cmpS (Or.inr rfl) (Or.inl rfl) hH hG p840 p820 w2' w1 (by omega) ho (fun r _ r2 => ?_)
      refine b_X10_laysOtherCells_41 ?_
      rw [nI_1]
      refine ⟨fun z => iho m2 b1 (fun y => ?_) b3, fun z => ⟨pk_in o 7 (by omega), pk_in v 7 (by omega), ?_⟩⟩
      · by_cases w : u0 = o
        · exact absurd (r2.mpr (by rw [← w]; exact es0.symm)) z
        · exact b2 (by omega)
      · have ev := (s2 o v ho hv).mpr (r2.mp z).symm
        rw [nI_clamp (show o < 2 ^ 31 by omega), nI_clamp (show v < 2 ^ 31 by omega), fM_1 b3 (a := 821), hr o ho, ev]
        refine iho _ (fun u hu => by rw [rI_n (by omega)]; exact b1 u hu) (fun _ => rI_s) (fM_trans b3 fM_r)
theorem c0_x {G H : Gr} (hG : gWF G) (hn : gn G = gn H) (h : clk G H) {u w : Nat} (e : gc G u = gc H w) : c0 G u = c0 H w := by
  have eoc : ∀ k, k < 10 → oc G k = oc H k := fun k hk => by unfold oc; rw [h k hk, hn]
  unfold c0
  rw [fb_ct_cong (p := oc G) (q := oc H) (fun i hi => eoc i (by have := hG.1.1 u; omega)), e]
theorem clk_q {G H : Gr} (hn : gn G = gn H) (h : clk G H) : q0 G = q0 H := fb_ct_cong fun k hk => by unfold oc; rw [h k hk, hn]
theorem clk_ex {G H : Gr} (hH : gWF H) (hn : gn G = gn H) (h : clk G H) {w : Nat} (hw : w < gn G) : ∃ u, u < gn G ∧ gc G u = gc H w := by
  have h1 : 0 < fb_ct (fun v => gc H v == gc H w) (gn G) := fb_ct_pos.mpr ⟨w, hw, bq_t rfl⟩
  rw [← h _ (hH.1.1 w)] at h1
  obtain ⟨x, hx, ex⟩ := fb_ct_pos.mp h1
  exact ⟨x, hx, by simpa using ex⟩
theorem d_toldBy {G H : Gr} (he : 3 ≤ e) (hG : gWF G) (hH : gWF H) (hGH : gn G = gn H) (hp : pD m G) (hq : pO m H) (K : ∀ m', fM [25] [819, 820, 821, 839, 840] m m' → Q (some (.int (told G H))) (mk m')) : Ok g gr e mX10_toldBy 0 0 [.ref 810] (mk m) Q := by
  obtain ⟨d, rfl⟩ := dn he
  have h7 := hG.2.1.2
  refine b_X10_toldBy_0 (d_areColoursAlike hG hH hGH hp hq (fun hk => ?_) (fun hk => ?_))
  · have et : told G H = tld G H 7 (c0 G) (c0 H) (q0 G) 1 := by unfold told; rw [if_pos hk]
    refine b_X10_toldBy_4 ⟨fun _ => ?_, fun z => absurd z (by decide)⟩
    refine d_laysColours hG hp (fun m1 a1 a2 => ?_)
    refine b_X10_toldBy_13 ?_
    have w1 := c0_cwf hG.1
    have w2 := c0_cwf hH.1
    rw [← hGH, ← clk_q hGH hk] at w2
    have start : ∀ m2, (∀ v, v < gn G → m2.1 839 v = nI (c0 H v)) → fM [] [839] m1 m2 → WP g gr (d + 3) mX10_toldBy 0 0 76 [.ref 810, .int 1, .int (nI 0)] [] (mk m2) Q := by
      intro m2 b1 b2
      have key : ∀ k r c1 c2 q m', r + k = 7 → r + 1 ≤ q → cwf (gn G) c1 q → cwf (gn G) c2 q → pE m' (gn G) c1 q → (∀ v, v < gn G → m'.1 839 v = nI (c2 v)) → fM [25] [819, 820, 821, 839, 840] m m' → told G H = tld G H k c1 c2 q (r + 1) → WP g gr (d + 3) mX10_toldBy 0 0 76 [.ref 810, .int 1, .int (nI r)] [] (mk m') Q := by
        intro k
        induction k with
        | zero =>
          intro r c1 c2 q m' hr hrq v1 v2 c3 c4 c5 c6
          have := cwf_le v1
          omega
        | succ k ih =>
          intro r c1 c2 q m' hr hrq v1 v2 c3 c4 c5 c6
          have hp' := pD_fM hp c5
          have hq' := pO_fM hq c5
          refine b_X10_toldBy_76 ⟨fun z => absurd z (by decide), fun _ => ?_⟩
          refine d_laysOtherSigns hH hGH hp'.1 hq' c4 v2 (fun m3 g1 g2 => ?_)
          refine b_X10_toldBy_87 ?_
          rw [nI_1]
          refine d_goesRound (by omega) hG (pD_fM hp' g2) (pE_fM c3 g2) v1 (fun m4 i1 i2 i3 i4 => ?_)
          refine b_X10_toldBy_91 ?_
          have p840 : pSg m4 840 H c2 := fun v j hv hj => by rw [fM_1 i4]; exact g1 v j hv hj
          have n4 : m4.1 810 21 = nI (gn G) := by rw [fM_2 i4, fM_2 g2]; exact hp'.1
          have f4 : fM [25] [819, 820, 821, 839, 840] m m4 := fM_trans c5 (fM_trans (fM_mono g2) (fM_mono i4))
          refine d_areSignsAlike (by omega) hG hH hGH n4 i2 p840 v1 v2 (fun hs => ?_) (fun hs => ?_)
          · refine b_X10_toldBy_96 ⟨fun _ => ?_, fun z => absurd z (by decide)⟩
            refine d_laysOtherCells (by omega) hG hH hGH n4 i2 p840 v1 v2 i3 hs (fun m5 j1 j2 => ?_)
            refine b_X10_toldBy_105 ?_
            have f5 : fM [25] [819, 820, 821, 839, 840] m m5 := fM_trans f4 (fM_mono j2)
            have et2 : tld G H (k + 1) c1 c2 q (r + 1) = if q < rq G c1 then tld G H k (rd G c1) (rd H c2) (rq G c1) (r + 1 + 1) else -2 := if_pos hs
            by_cases hlt : q < rq G c1
            · rw [if_pos hlt]
              rw [if_pos hlt] at et2
              have u1 := rd_cwf G c1
              have u2 := rd_cwf H c2
              rw [← hGH, (slk_rd hGH hs).1] at u2
              exact ih (r + 1) _ _ _ m5 (by omega) (by omega) u1 u2 (pE_fM i1 j2) j1 f5 (c6.trans et2)
            · rw [if_neg hlt]
              rw [if_neg hlt] at et2
              refine b_X10_toldBy_76 ⟨fun _ => ?_, fun z => absurd rfl z⟩
              have := K m5 f5
              rw [c6, et2] at this
              exact this
          · refine b_X10_toldBy_96 ⟨fun z => absurd rfl z, fun _ => ?_⟩
            have et2 : tld G H (k + 1) c1 c2 q (r + 1) = nI (r + 1) := if_neg hs
            have := K m4 f4
            rw [c6, et2] at this
            exact this
      exact key 7 0 _ _ _ m2 rfl (by have := q0_pos hG; omega) w1 w2 (pE_fM a1 b2) b1 (fM_trans (fM_mono a2) (fM_mono b2)) et
    refine up_to (n := gn G) (P := fun v => ∀ m', (∀ u, u < v → m'.1 839 u = nI (c0 H u)) → fM [] [839] m1 m' → WP g gr (d + 3) mX10_toldBy 0 0 15 [.ref 810, .int (nI v), .retAddr 0] [] (mk m') Q) ?_ ?_ 0 (Nat.zero_le _) m1 (fun u hu => absurd hu (Nat.not_lt_zero _)) (fM_refl _ _ _)
    · intro m' b1 b2
      exact b_X10_toldBy_15 (pk_le (gn G) (gn G) (fun _ => start m' b1 b2) (fun z => absurd z (Nat.lt_irrefl _)) (by rw [fM_2 b2, fM_2 a2]; exact hp.1))
    · intro v hv ih m' b1 b2
      obtain ⟨u0, hu0, eu0⟩ := clk_ex hH hGH hk hv
      refine b_X10_toldBy_15 (pk_le (gn G) v (fun z => by omega) (fun _ => ?_) (by rw [fM_2 b2, fM_2 a2]; exact hp.1))
      refine up_to (n := gn G) (P := fun o => ∀ m', (∀ u, u < v → m'.1 839 u = nI (c0 H u)) → (u0 < o → m'.1 839 v = nI (c0 H v)) → fM [] [839] m1 m' → WP g gr (d + 3) mX10_toldBy 0 0 25 [.ref 810, .int (nI v), .int (nI o)] [] (mk m') Q) ?_ ?_ 0 (Nat.zero_le _) m' b1 (fun z => absurd z (Nat.not_lt_zero _)) b2
      · intro m2 c1 c2 c3
        refine b_X10_toldBy_25 (pk_le (gn G) (gn G) (fun _ => ?_) (fun z => absurd z (Nat.lt_irrefl _)) (by rw [fM_2 c3, fM_2 a2]; exact hp.1))
        rw [nI_1]
        refine ih m2 (fun u hu => ?_) c3
        by_cases z : u = v
        · subst z; exact c2 hu0
        · exact c1 u (by omega)
      · intro o ho iho m2 c1 c2 c3
        have g1 := hG.1.1 o
        have g2 := hH.1.1 v
        refine b_X10_toldBy_25 (pk_le (gn G) o (fun z => by omega) (fun _ => ⟨pk_in v 7 (by omega), pk_in o 7 (by omega), ?_⟩) (by rw [fM_2 c3, fM_2 a2]; exact hp.1))
        rw [nI_clamp (show o < 2 ^ 31 by omega), nI_clamp (show v < 2 ^ 31 by omega), fM_1 c3 (a := 834), fM_1 a2 (a := 834), hq.2.1 v (by omega), fM_1 c3 (a := 817), fM_1 a2 (a := 817), hp.2.1 o ho, nI_eq (by omega) (by omega), fM_1 c3 (a := 819), a1.1 o ho, nI_1]
        refine ⟨fun z => iho m2 c1 (fun y => ?_) c3, fun z => iho _ (fun u hu => by rw [rI_n (by omega)]; exact c1 u hu) (fun _ => ?_) (fM_trans c3 fM_r)⟩
        · by_cases w : u0 = o
          · exact absurd (by rw [← w]; exact eu0.symm) z
          · exact c2 (by omega)
        · rw [rI_s, c0_x hG hGH hk z.symm]
  · have et : told G H = 0 := by unfold told; rw [if_neg hk]
    refine b_X10_toldBy_4 ⟨fun z => absurd rfl z, fun _ => ?_⟩
    have := K m (fM_refl _ _ _)
    rw [et] at this
    exact this
end ZMo
