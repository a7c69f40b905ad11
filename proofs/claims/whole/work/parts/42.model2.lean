/-! the model: colours, cells, targets, marks, the start; other graphs laid aside -/
theorem i_has {a k : Nat} (ha : a < 2 ^ 31) (hk : k < 31) : tX10_has (nI a) (nI k) ↔ a.testBit k = true := by
  unfold tX10_has
  have h1 : a / 2 ^ k ≤ a := Nat.div_le_self _ _
  rw [pk_shrN ha _ k (s_l k (by omega)), pk_andN (m := 1) (show a / 2 ^ k < 2 ^ 32 by omega) 1 (by decide)]
  have h2 : a / 2 ^ k % 2 ^ 1 < 2 ^ 31 := by omega
  rw [show (1 : Int32) = nI 1 from rfl, nI_eq h2 (by decide), Nat.testBit_eq_decide_div_mod_eq, decide_eq_true_iff]
/-- the target's number; -1: there is none -/
def tgv (c : Nat → Nat) (n q : Nat) : Int32 := if tg c n q = 0 then -1 else nI (tg c n q - 1)
theorem tgv_0 {c : Nat → Nat} {n q : Nat} (hq : q ≤ 7) : tgv c n q = -1 ↔ tg c n q = 0 := by
  unfold tgv
  have hl := tg_le c n q
  by_cases h : tg c n q = 0
  · rw [if_pos h]; exact ⟨fun _ => h, fun _ => rfl⟩
  · rw [if_neg h]
    have key : ∀ t, t < 8 → ¬ nI t = -1 := by decide +kernel
    exact ⟨fun z => absurd z (key _ (by omega)), fun z => absurd z h⟩
theorem tgv_n {c : Nat → Nat} {n q : Nat} (h : tg c n q ≠ 0) : tgv c n q = nI (tg c n q - 1) := if_neg h
section ZMo
variable {g : zG} {gr : Bool} {e : Nat} {m : zm} {Q : Option Value → zH → Prop}
theorem d_sizeOf {n q j : Nat} {c : Nat → Nat} (hn7 : n ≤ 7) (hn : m.1 810 21 = nI n) (hE : pE m n c q) (hc : ∀ v, v < n → c v < 8) (hj : j < 2 ^ 31) (K : Q (some (.int (nI (cz c n j)))) (mk m)) : Ok g gr e mX10_sizeOf 0 0 [.ref 810, .int (nI j)] (mk m) Q := by
  refine b_X10_sizeOf_0 (d := e) (up_to (n := n) (P := fun v => WP g gr e mX10_sizeOf 0 0 4 [.ref 810, .int (nI j), .int (nI (fb_ct (fun v => c v == j) v)), .int (nI v)] [] (mk m) Q) ?_ (fun v hv ih => ?_) 0 (Nat.zero_le _))
  · exact b_X10_sizeOf_4 (d := e) (pk_le n n (fun _ => K) (fun z => absurd z (Nat.lt_irrefl _)) hn)
  · refine b_X10_sizeOf_4 (d := e) (pk_le n v (fun z => by omega) (fun _ => ⟨pk_in v 7 (by omega), ?_⟩) hn)
    have hcv := hc v hv
    have es : fb_ct (fun v => c v == j) (v + 1) = fb_ct (fun v => c v == j) v + (if (c v == j) = true then 1 else 0) := fb_ct_succ _ _
    rw [nI_clamp (show v < 2 ^ 31 by omega), hE.1 v hv, nI_eq (by omega) hj, show (0 : Int32) = nI 0 from rfl, nI_add, nI_1, nI_1, Nat.add_zero]
    refine ⟨fun z => ?_, fun z => ?_⟩
    · rw [es, bq_f z] at ih; exact ih
    · rw [es, bq_t z] at ih; exact ih
theorem d_targetCell {n q : Nat} {c : Nat → Nat} (he : 1 ≤ e) (hn7 : n ≤ 7) (hn : m.1 810 21 = nI n) (hE : pE m n c q) (hc : cwf n c q) (K : Q (some (.int (tgv c n q))) (mk m)) : Ok g gr e mX10_targetCell 0 0 [.ref 810] (mk m) Q := by
  obtain ⟨d, rfl⟩ := dn he
  have hq := cwf_le hc
  have hc8 : ∀ v, v < n → c v < 8 := fun v hv => by have := hc.1 v hv; omega
  refine b_X10_targetCell_0 (up_to (n := q) (P := fun j => WP g gr (d + 1) mX10_targetCell 0 0 4 [.ref 810, .int (tgv c n j), .int (nI j)] [] (mk m) Q) ?_ (fun j hj ih => ?_) 0 (Nat.zero_le _))
  · exact b_X10_targetCell_4 (pk_le q q (fun _ => K) (fun z => absurd z (Nat.lt_irrefl _)) hE.2)
  · have hcz := cz_le c n j
    have hnew : (1 < cz c n j ∧ (tg c n j = 0 ∨ cz c n j < cz c n (tg c n j - 1))) → tgv c n (j + 1) = nI j := fun h => by
      unfold tgv
      rw [tg_succ, if_pos h, if_neg (by omega)]; rfl
    have hold : ¬ (1 < cz c n j ∧ (tg c n j = 0 ∨ cz c n j < cz c n (tg c n j - 1))) → tgv c n (j + 1) = tgv c n j := fun h => by
      unfold tgv
      rw [tg_succ, if_neg h]
    have htl := tg_le c n j
    refine b_X10_targetCell_4 (pk_le q j (fun z => by omega) (fun _ => ?_) hE.2)
    refine d_sizeOf hn7 hn hE hc8 (by omega) ?_
    refine b_X10_targetCell_17 (pk_le (cz c n j) 1 (fun z => ?_) (fun z => ⟨fun w => ?_, fun w => ?_⟩))
    · rw [nI_1, ← hold (fun w => by omega)]; exact ih
    · rw [nI_1, ← hnew ⟨z, Or.inl ((tgv_0 (by omega)).mp w)⟩]; exact ih
    · have ht : tg c n j ≠ 0 := fun y => w ((tgv_0 (by omega)).mpr y)
      refine d_sizeOf hn7 hn hE hc8 (by omega) ?_
      refine b_X10_targetCell_31 ?_
      rw [tgv_n ht]
      refine d_sizeOf hn7 hn hE hc8 (by omega) ?_
      have hcz2 := cz_le c n (tg c n j - 1)
      refine b_X10_targetCell_36 (pk_le (cz c n (tg c n j - 1)) (cz c n j) (fun y => ?_) (fun y => ?_))
      · rw [nI_1, ← tgv_n ht, ← hold (fun x => by rcases x.2 with x | x <;> omega)]; exact ih
      · rw [nI_1, ← hnew ⟨z, Or.inr y⟩]; exact ih
theorem d_setOf {n q j : Nat} {c : Nat → Nat} (hn7 : n ≤ 7) (hn : m.1 810 21 = nI n) (hE : pE m n c q) (hc : ∀ v, v < n → c v < 8) (hj : j < 2 ^ 31) (K : Q (some (.int (nI (bm (fun v => c v == j) n)))) (mk m)) : Ok g gr e mX10_setOf 0 0 [.ref 810, .int (nI j)] (mk m) Q := by
  refine b_X10_setOf_0 (d := e) (up_to (n := n) (P := fun v => WP g gr e mX10_setOf 0 0 4 [.ref 810, .int (nI j), .int (nI (bm (fun v => c v == j) v)), .int (nI v)] [] (mk m) Q) ?_ (fun v hv ih => ?_) 0 (Nat.zero_le _))
  · exact b_X10_setOf_4 (d := e) (pk_le n n (fun _ => K) (fun z => absurd z (Nat.lt_irrefl _)) hn)
  · refine b_X10_setOf_4 (d := e) (pk_le n v (fun z => by omega) (fun _ => ⟨pk_in v 7 (by omega), ?_⟩) hn)
    have hcv := hc v hv
    rw [nI_clamp (show v < 2 ^ 31 by omega), hE.1 v hv, nI_eq (by omega) hj, show (0 : Int32) = nI 0 from rfl, fa_or, i_sh1 (by omega), fa_or, nI_1, Nat.or_zero]
    refine ⟨fun z => ?_, fun z => ?_⟩
    · rw [← bm_skip (p := fun v => c v == j) (bq_f z)]; exact ih
    · rw [bm_put (p := fun v => c v == j) (bq_t z)]; exact ih
theorem d_setsApart {n q v : Nat} {c : Nat → Nat} (hn7 : n ≤ 7) (hn : m.1 810 21 = nI n) (hE : pE m n c q) (hc : ∀ v, v < n → c v < 8) (hv : v < n) (K : ∀ m', pE m' n (ap c v) (q + 1) → fM [25] [819] m m' → Q none (mk m')) : Ok g gr e mX10_setsApart 0 0 [.ref 810, .int (nI v)] (mk m) Q := by
  refine b_X10_setsApart_0 (d := e) ⟨pk_in v 7 (by omega), ?_⟩
  rw [nI_clamp (show v < 2 ^ 31 by omega), hE.1 v hv]
  refine up_to (n := n) (P := fun o => ∀ m', (∀ u, u < n → m'.1 819 u = nI (if u < o then ap c v u else c u)) → fM [25] [819] m m' → m'.1 810 25 = nI q → WP g gr e mX10_setsApart 0 0 9 [.ref 810, .int (nI v), .int (nI (c v)), .int (nI o)] [] (mk m') Q) ?_ ?_ 0 (Nat.zero_le _) m (fun u hu => by rw [if_neg (Nat.not_lt_zero _)]; exact hE.1 u hu) (fM_refl _ _ _) hE.2
  · intro m' a1 a2 a3
    refine b_X10_setsApart_9 (d := e) (pk_le n n (fun _ => ?_) (fun z => absurd z (Nat.lt_irrefl _)) (by rw [fM_2 a2]; exact hn))
    rw [a3, nI_1]
    exact K _ ⟨fun u hu => by rw [rI_n (by omega), a1 u hu, if_pos hu], rI_s⟩ (fM_trans a2 fM_f)
  · intro o ho ih m' a1 a2 a3
    have hco := hc o ho
    have hcv := hc v hv
    have stay : ap c v o = c o → ∀ u, u < n → m'.1 819 u = nI (if u < o + 1 then ap c v u else c u) := fun h u hu => by
      rw [a1 u hu]
      by_cases z : u = o
      · subst z; rw [if_neg (Nat.lt_irrefl _), if_pos (Nat.lt_succ_self _), h]
      · by_cases z2 : u < o
        · rw [if_pos z2, if_pos (by omega)]
        · rw [if_neg z2, if_neg (by omega)]
    refine b_X10_setsApart_9 (d := e) (pk_le n o (fun z => by omega) (fun _ => pk_eq o v (fun z => ?_) (fun z => ⟨pk_in o 7 (by omega), ?_⟩)) (by rw [fM_2 a2]; exact hn))
    · rw [nI_1]
      exact ih m' (stay (by unfold ap; rw [if_neg (fun w => w.1 z)])) a2 a3
    · rw [nI_clamp (show o < 2 ^ 31 by omega), a1 o ho, if_neg (Nat.lt_irrefl _), nI_1, nI_1]
      refine pk_lt (c o) (c v) (fun w => ?_) (fun w => ?_)
      · exact ih m' (stay (by unfold ap; rw [if_neg (fun y => by omega)])) a2 a3
      · refine ih _ (fun u hu => ?_) (fM_trans a2 fM_r) (by rw [rI_n (by omega)]; exact a3)
        by_cases y : u = o
        · subst y
          rw [rI_s, if_pos (Nat.lt_succ_self _)]
          unfold ap
          rw [if_pos ⟨z, w⟩]
        · rw [rI_n (fun x => y x.2), a1 u hu]
          by_cases z2 : u < o
          · rw [if_pos z2, if_pos (by omega)]
          · rw [if_neg z2, if_neg (by omega)]
theorem d_markOf {n q r : Nat} {c : Nat → Nat} (he : 1 ≤ e) (hn7 : n ≤ 7) (hn : m.1 810 21 = nI n) (hE : pE m n c q) (hc : cwf n c q) (K : Q (some (.int (nI (mrk c n q r)))) (mk m)) : Ok g gr e mX10_markOf 0 0 [.ref 810, .int (nI r)] (mk m) Q := by
  obtain ⟨d, rfl⟩ := dn he
  have hq := cwf_le hc
  have hc8 : ∀ v, v < n → c v < 8 := fun v hv => by have := hc.1 v hv; omega
  refine b_X10_markOf_0 (up_to (n := q) (P := fun j => WP g gr (d + 1) mX10_markOf 0 0 4 [.ref 810, .int (nI r), .int (nI (nm 10 (cz c n) j)), .int (nI j)] [] (mk m) Q) ?_ (fun j hj ih => ?_) 0 (Nat.zero_le _))
  · refine b_X10_markOf_4 (pk_le q q (fun _ => ?_) (fun z => absurd z (Nat.lt_irrefl _)) hE.2)
    rw [show (10 : Int32) = nI 10 from rfl, pk_mul, nI_add]
    exact K
  · refine b_X10_markOf_4 (pk_le q j (fun z => by omega) (fun _ => ?_) hE.2)
    refine d_sizeOf hn7 hn hE hc8 (by omega) ?_
    refine b_X10_markOf_21 ?_
    rw [show (10 : Int32) = nI 10 from rfl, pk_mul, nI_add, nI_1]
    exact ih
theorem d_laysColours {G : Gr} (hG : gWF G) (hp : pD m G) (K : ∀ m', pE m' (gn G) (c0 G) (q0 G) → fM [25] [819] m m' → Q none (mk m')) : Ok g gr e mX10_laysColours 0 0 [.ref 810] (mk m) Q := by
  have h7 := hG.2.1.2
  refine b_X10_laysColours_0 (d := e) (up_to (n := 10) (P := fun k => ∀ m', (∀ v, v < gn G → gc G v < k → m'.1 819 v = nI (c0 G v)) → m'.1 810 25 = nI (fb_ct (oc G) k) → fM [25] [819] m m' → WP g gr e mX10_laysColours 0 0 7 [.ref 810, .int (nI k), .retAddr 0, .retAddr 0] [] (mk m') Q) ?_ ?_ 0 (Nat.zero_le _) _ (fun v _ hv => absurd hv (Nat.not_lt_zero _)) rI_s fM_f)
  · intro m' a1 a2 a3
    exact b_X10_laysColours_7 (d := e) (pk_le 10 10 (fun _ => K m' ⟨fun v hv => a1 v hv (hG.1.1 v), a2⟩ a3) (fun z => absurd z (Nat.lt_irrefl _)))
  · intro k hk ih m' a1 a2 a3
    refine b_X10_laysColours_7 (d := e) (pk_le 10 k (fun z => by omega) (fun _ => ?_))
    refine up_to (n := gn G) (P := fun v => ∀ m' b, (∀ u, u < gn G → gc G u < k ∨ (gc G u = k ∧ u < v) → m'.1 819 u = nI (c0 G u)) → m'.1 810 25 = nI (fb_ct (oc G) k) → ((b : Nat) = 0 ∧ (∀ u, u < v → gc G u ≠ k) ∨ b = 1 ∧ ∃ u, u < v ∧ gc G u = k) → fM [25] [819] m m' → WP g gr e mX10_laysColours 0 0 17 [.ref 810, .int (nI k), .int (nI b), .int (nI v)] [] (mk m') Q) ?_ ?_ 0 (Nat.zero_le _) m' 0 (fun u hu h => a1 u hu (by omega)) a2 (Or.inl ⟨rfl, fun u hu => absurd hu (Nat.not_lt_zero _)⟩) a3
    · intro m2 b b1 b2 b3 b4
      have es : fb_ct (oc G) (k + 1) = fb_ct (oc G) k + (if oc G k = true then 1 else 0) := fb_ct_succ _ _
      refine b_X10_laysColours_17 (d := e) (pk_le (gn G) (gn G) (fun _ => pk_eq b 0 (fun z => ?_) (fun z => ?_) rfl rfl (by omega)) (fun z => absurd z (Nat.lt_irrefl _)) (by rw [fM_2 b4]; exact hp.1))
      · have hno : oc G k = false := by
          cases h : oc G k with
          | false => rfl
          | true =>
            obtain ⟨v, hv, ev⟩ := oc_iff.mp h
            rcases b3 with w | w
            · exact absurd ev (w.2 v hv)
            · omega
        rw [b2, show (0 : Int32) = nI 0 from rfl, nI_add, nI_1]
        rw [hno] at es
        refine ih _ (fun v hv h => ?_) (by rw [rI_s, es]; rfl) (fM_trans b4 fM_f)
        rw [rI_n (by omega)]
        refine b1 v hv ?_
        by_cases w : gc G v = k
        · exact Or.inr ⟨w, hv⟩
        · exact Or.inl (by omega)
      · have hyes : oc G k = true := by
          rcases b3 with w | ⟨w, u, u1, u2⟩
          · exact absurd w.1 z
          · exact oc_iff.mpr ⟨u, u1, u2⟩
        rw [b2, nI_1, nI_1]
        rw [hyes] at es
        refine ih _ (fun v hv h => ?_) (by rw [rI_s, es]; rfl) (fM_trans b4 fM_f)
        rw [rI_n (by omega)]
        refine b1 v hv ?_
        by_cases w : gc G v = k
        · exact Or.inr ⟨w, hv⟩
        · exact Or.inl (by omega)
    · intro v hv ih2 m2 b b1 b2 b3 b4
      have hcv := hG.1.1 v
      refine b_X10_laysColours_17 (d := e) (pk_le (gn G) v (fun z => by omega) (fun _ => ⟨pk_in v 7 (by omega), ?_⟩) (by rw [fM_2 b4]; exact hp.1))
      rw [nI_clamp (show v < 2 ^ 31 by omega), fM_1 b4 (a := 817), hp.2.1 v hv, nI_eq (by omega) (by omega), nI_1]
      refine ⟨fun z => ?_, fun z => ?_⟩
      · refine ih2 m2 b (fun u hu h => b1 u hu ?_) b2 (b3.imp (fun w => ⟨w.1, fun u hu => ?_⟩) (fun ⟨w, u, u1, u2⟩ => ⟨w, u, by omega, u2⟩)) b4
        · rcases h with h | ⟨h, h2⟩
          · exact Or.inl h
          · refine Or.inr ⟨h, ?_⟩
            by_cases y : u = v
            · subst y; exact absurd h z
            · omega
        · by_cases y : u = v
          · subst y; exact z
          · exact w.2 u (by omega)
      · rw [b2]
        refine ih2 _ 1 (fun u hu h => ?_) (by rw [rI_n (by omega)]; exact b2) (Or.inr ⟨rfl, v, Nat.lt_succ_self _, z⟩) (fM_trans b4 fM_r)
        by_cases y : u = v
        · subst y; rw [rI_s]; unfold c0; rw [z]
        · rw [rI_n (fun x => y x.2)]
          refine b1 u hu ?_
          rcases h with h | ⟨h, h2⟩
          · exact Or.inl h
          · exact Or.inr ⟨h, by omega⟩
theorem d_starts {G : Gr} (he : 4 ≤ e) (hG : gWF G) (hp : pD m G) (K : ∀ m', pE m' (gn G) (st G).1 (st G).2.1 → fM [25] [819, 820, 821] m m' → Q (some (.int (nI (st G).2.2))) (mk m')) : Ok g gr e mX10_starts 0 0 [.ref 810] (mk m) Q := by
  obtain ⟨d, rfl⟩ := dn he
  refine b_X10_starts_0 (d_laysColours hG hp (fun m1 a1 a2 => ?_))
  refine b_X10_starts_4 (d_refines (by omega) hG (pD_fM hp a2) a1 (c0_cwf hG.1) (q0_pos hG) (fun m2 b1 b2 => ?_))
  exact b_X10_starts_8 (K m2 b1 (fM_trans (fM_mono a2) b2))
theorem d_cellsBy {set : Nat} {G : Gr} (he : 5 ≤ e) (hG : gWF G) (hp : pD m G) (hset : set < 2 ^ 31) (K : ∀ m', fM [25] [819, 820, 821] m m' → Q (some (.int (nI (bsq G set)))) (mk m')) : Ok g gr e mX10_cellsBy 0 0 [.ref 810, .int (nI set)] (mk m) Q := by
  obtain ⟨d, rfl⟩ := dn he
  have h7 := hG.2.1.2
  refine b_X10_cellsBy_0 (d_starts (by omega) hG hp (fun m1 a1 a2 => ?_))
  refine b_X10_cellsBy_4 ?_
  refine up_to (n := gn G) (P := fun v => ∀ m', pE m' (gn G) (bss G set v).1 (bss G set v).2 → fM [25] [819, 820, 821] m m' → WP g gr (d + 5) mX10_cellsBy 0 0 7 [.ref 810, .int (nI set), .int (nI v)] [] (mk m') Q) ?_ ?_ 0 (Nat.zero_le _) m1 a1 a2
  · intro m' b1 b2
    have hb := bss_cwf hG set (gn G) (Nat.le_refl _)
    have hb1 : 1 ≤ (bss G set (gn G)).2 := by have := hb.1 0 (by have := hG.2.1.1; omega); omega
    have px := pD_fM hp b2
    refine b_X10_cellsBy_7 (pk_le (gn G) (gn G) (fun _ => ?_) (fun z => absurd z (Nat.lt_irrefl _)) px.1)
    refine d_refines (by omega) hG px b1 hb hb1 (fun m2 c1 c2 => ?_)
    refine b_X10_cellsBy_52 ?_
    rw [c1.2]
    exact K m2 (fM_trans b2 c2)
  · intro v hv ih m' b1 b2
    have hb := bss_cwf hG set v (by omega)
    have hq := cwf_le hb
    have hc8 : ∀ u, u < gn G → (bss G set v).1 u < 8 := fun u hu => by have := hb.1 u hu; omega
    have px := pD_fM hp b2
    refine b_X10_cellsBy_7 (pk_le (gn G) v (fun z => by omega) (fun _ => ?_) px.1)
    rw [i_has hset (by omega), nI_clamp (show v < 2 ^ 31 by omega), b1.1 v hv, nI_1]
    refine ⟨fun z => ⟨pk_in v 7 (by omega), ?_⟩, fun z => ?_⟩
    · have hcv := hc8 v hv
      refine d_sizeOf h7 px.1 b1 hc8 (by omega) ?_
      have hcz := cz_le (bss G set v).1 (gn G) ((bss G set v).1 v)
      rw [bss_y z] at ih
      refine b_X10_cellsBy_33 (pk_le (cz (bss G set v).1 (gn G) ((bss G set v).1 v)) 1 (fun w => ?_) (fun w => ?_))
      · rw [nI_1]
        unfold pa paq at ih
        rw [if_neg (show ¬ 1 < _ by omega), if_neg (show ¬ 1 < _ by omega)] at ih
        exact ih m' b1 b2
      · refine d_setsApart h7 px.1 b1 hc8 hv (fun m2 c1 c2 => ?_)
        refine b_X10_cellsBy_42 ?_
        rw [nI_1]
        unfold pa paq at ih
        rw [if_pos w, if_pos w] at ih
        exact ih m2 c1 (fM_trans b2 (fM_mono c2))
    · rw [bss_n z] at ih
      exact ih m' b1 b2
end ZMo
