/-! the class Cells: divide, refine, begin, a vertex ahead, target, mark, take -/
section ZCl
variable {g : zG} {gr : Bool} {e : Nat} {m : zm} {Q : Option Value → zH → Prop}
theorem k_divide {o x q : Nat} {G : Gr} {c : Nat → Nat} (ho : sX0 o) (hx : sX1 x) (he : 2 ≤ e) (hG : gWF G) (hp : pG m x G) (hd : o + 5 ≤ x ∨ x + 15 ≤ o) (hc : cwf (gn G) c q) (hC : pC m o (gn G) c q)
    (H : ∀ m', pC m' o (gn G) (rd G c) (rq G c) → m'.1 o 1 = m.1 o 1 → (∀ v, v < gn G → m'.2 (o + 2) (rd G c v) = lN (sg G c v (3 * q))) → fz o (o + 5) m m' → Q (some (.int (if q < rq G c then 1 else 0))) (mk m')) : Ok g gr e mX0_divide 0 0 [.ref o, .ref x] (mk m) Q := by
  obtain ⟨d, rfl⟩ := dn he
  have h7 := hG.2.1.2
  have hq7 : q ≤ 7 := by have := cwf_le hc; omega
  have hD := rd_Dn G c
  have hrq : rq G c ≤ 7 := by have := cwf_le (rd_cwf G c); omega
  refine b_X0_divide_0 ho hx ?_
  refine up_to (n := gn G) (P := fun i => ∀ m', (∀ v, v < i → m'.2 (o + 3) v = lN (sg G c v (3 * q))) → m'.1 = m.1 → fz o (o + 5) m m' → WP g gr (d + 2) mX0_divide 0 0 2 [.ref o, .ref x, .int (nI i)] [] (mk m') Q) ?_ ?_ 0 (Nat.zero_le _) m (fun v hv => absurd hv (Nat.not_lt_zero _)) rfl (fz_refl _ _ _)
  · intro m' a1 a2 a3
    refine b_X0_divide_2 ho hx (pk_le (gn G) (gn G) (fun _ => ?_) (fun z => absurd z (Nat.lt_irrefl _)) (by rw [a2]; exact hp.1))
    -- the cells, one behind the other
    refine up_to (n := q) (P := fun j => ∀ m' pc, (∀ v, v < gn G → (c v < j ↔ rd G c v < pc)) → pc ≤ rq G c → m'.1 o 6 = nI pc → (∀ i, i < pc → m'.1 (o + 4) i = nI (bm (fun v => rd G c v == i) (gn G))) → (∀ v, v < gn G → rd G c v < pc → m'.2 (o + 2) (rd G c v) = lN (sg G c v (3 * q))) → (∀ v, v < gn G → m'.2 (o + 3) v = lN (sg G c v (3 * q))) → (∀ j, j < q → m'.1 (o + 1) j = nI (bm (fun v => c v == j) (gn G))) → m'.1 o 0 = nI q → m'.1 o 1 = m.1 o 1 → fz o (o + 5) m m' → WP g gr (d + 2) mX0_divide 0 0 35 [.ref o, .retAddr 0, .int (nI j)] [] (mk m') Q) ?_ ?_ 0 (Nat.zero_le _) _ 0 (fun v hv => ⟨fun z => absurd z (Nat.not_lt_zero _), fun z => absurd z (Nat.not_lt_zero _)⟩) (Nat.zero_le _) rI_s (fun i hi => absurd hi (Nat.not_lt_zero _)) (fun v _ hv => absurd hv (Nat.not_lt_zero _)) (fun v hv => by rw [wI_2]; exact a1 v hv) (fun j hj => by rw [rI_n (by omega), a2]; exact hC.2 j hj) (by rw [rI_n (by omega), a2]; exact hC.1) (by rw [rI_n (by omega), a2]) (fz_trans a3 fz_wI)
    · intro m2 pc b1 b2 b3 b4 b5 b6 b7 b8 b9 b10
      have epc : pc = rq G c := by
        apply Nat.le_antisymm b2
        apply Classical.byContradiction
        intro hlt
        obtain ⟨u, hu, eu⟩ := hD.2.2 pc (by omega)
        have := (b1 u hu).mp (hc.1 u hu)
        omega
      subst epc
      have fin : ∀ m3 : zm, m3 = wI m2 o 0 (m2.1 o 6) → cpOk (m3.1 o 0) 7 7 ∧ Q (some (.int (if q < rq G c then 1 else 0))) (mk (wC m3 (o + 1) (o + 4) ((m3.1 o 0).toNatClampNeg))) := fun m3 e3 => by
        have r0 : m3.1 o 0 = nI (rq G c) := by rw [e3, rI_s]; exact b3
        rw [r0, nI_clamp (show rq G c < 2 ^ 31 by omega)]
        refine ⟨⟨nI_pos (by omega), by rw [nI_clamp (show rq G c < 2 ^ 31 by omega)]; omega, by rw [nI_clamp (show rq G c < 2 ^ 31 by omega)]; omega⟩, ?_⟩
        refine H _ ⟨by rw [wC_1, if_neg (by omega)]; exact r0, fun j hj => ?_⟩ (by rw [wC_1, if_neg (by omega), e3, rI_n (by omega)]; exact b9) (fun v hv => ?_) (fz_trans b10 (fz_trans (fz_eI e3) fz_wC))
        · rw [wC_1, if_pos ⟨rfl, hj⟩, e3, rI_n (by omega)]; exact b4 j hj
        · rw [wC_2, e3, wI_2]; exact b5 v hv (hD.2.1 v hv)
      refine b_X0_divide_35 ho (pk_le q q (fun _ => pk_le (rq G c) q (fun z => ?_) (fun z => ?_) b3 b8) (fun z => absurd z (Nat.lt_irrefl _)) b8)
      · intro m3 e3
        have := fin m3 e3
        rw [if_neg (by omega)] at this
        exact this
      · intro m3 e3
        have := fin m3 e3
        rw [if_pos z] at this
        exact this
    · intro j hj ih m2 pc b1 b2 b3 b4 b5 b6 b7 b8 b9 b10
      refine b_X0_divide_35 ho (pk_le q j (fun z => by omega) (fun _ => ⟨pk_in j 7 (by omega), ?_⟩) b8)
      rw [nI_clamp (show j < 2 ^ 31 by omega), b7 j hj]
      refine k_split ho hG hc hj b6 b1 b2 b3 b4 b5 (fun m3 pc' c1 c2 c3 c4 c5 c6 c7 => ?_)
      refine b_X0_divide_53 ho ?_
      rw [nI_1]
      refine ih m3 pc' c1 c2 c3 c4 c5 (fun v hv => by rw [c7 (o + 3) (by omega)]; exact b6 v hv) (fun j hj => by rw [c6 (o + 1) j (by omega) (by omega)]; exact b7 j hj) (by rw [c6 o 0 (by omega) (by omega)]; exact b8) (by rw [c6 o 1 (by omega) (by omega)]; exact b9) (fz_trans b10 (fun a ha => ⟨funext fun k => c6 a k (by omega) (by omega), c7 a (by omega)⟩))
  · intro i hi ih m' a1 a2 a3
    refine b_X0_divide_2 ho hx (pk_le (gn G) i (fun z => by omega) (fun _ => ?_) (by rw [a2]; exact hp.1))
    refine k_signOf ho hx (by omega) hG (pG_fz hp a3 (by omega)) ⟨by rw [a2]; exact hC.1, fun j hj => by rw [a2]; exact hC.2 j hj⟩ hq7 hi ?_
    refine b_X0_divide_21 ho hx (sX0_s4 ho) ⟨pk_in i 7 (by omega), ?_⟩
    rw [nI_clamp (show i < 2 ^ 31 by omega), nI_1]
    refine ih _ (fun v hv => ?_) (by rw [wL_1]; exact a2) (fz_trans a3 fz_wL)
    by_cases z : v = i
    · subst z; exact rL_s
    · rw [rL_n (fun w => z w.2)]; exact a1 v (by omega)
theorem k_refine {o x q : Nat} {G : Gr} {c : Nat → Nat} (ho : sX0 o) (hx : sX1 x) (he : 3 ≤ e) (hG : gWF G) (hp : pG m x G) (hd : o + 5 ≤ x ∨ x + 15 ≤ o) (hc : cwf (gn G) c q) (hq : 1 ≤ q) (hC : pC m o (gn G) c q)
    (H : ∀ m', pC m' o (gn G) (rfn G c q).1 (rfn G c q).2.1 → m'.1 o 1 = nI (rfn G c q).2.2 → fz o (o + 5) m m' → Q none (mk m')) : Ok g gr e mX0_refine 0 0 [.ref o, .ref x] (mk m) Q := by
  obtain ⟨d, rfl⟩ := dn he
  have h7 := hG.2.1.2
  refine b_X0_refine_0 ho hx ?_
  have key : ∀ k c' q' r m', cwf (gn G) c' q' → q' + k ≥ 8 → r < q' → pC m' o (gn G) c' q' → m'.1 o 1 = nI r → fz o (o + 5) m m' → (∀ m'', pC m'' o (gn G) (rf G k c' q').1 (rf G k c' q').2.1 → m''.1 o 1 = nI (r + (rf G k c' q').2.2) → fz o (o + 5) m m'' → Q none (mk m'')) → WP g gr (d + 3) mX0_refine 0 0 5 [.ref o, .ref x] [] (mk m') Q := by
    intro k
    induction k with
    | zero => intro c' q' r m' a1 a2; have := cwf_le a1; omega
    | succ k ih =>
      intro c' q' r m' a1 a2 a3 a4 a5 a6 a7
      have hq' := cwf_le a1
      have px := pG_fz hp a6 (by omega)
      refine b_X0_refine_5 ho hx (pk_le (gn G) q' (fun z => ?_) (fun z => pk_le 7 r (fun z2 => by omega) (fun z2 => ?_) rfl a5) px.1 a4.1)
      · rw [rf_0 z] at a7
        exact a7 m' a4 a5 a6
      · refine k_divide ho hx (by omega) hG px hd a1 a4 (fun m2 b1 b2 b3 b4 => ?_)
        have px2 := pG_fz px b4 (by omega)
        have hrq := rq_ge h7 a1
        by_cases hlt : q' < rq G c'
        · rw [if_pos hlt]
          refine b_X0_refine_30 ho hx ⟨fun z => absurd z (by decide), fun _ => ?_⟩
          rw [b2, a5, nI_1]
          rw [rf_1 z hlt] at a7
          refine ih (rd G c') (rq G c') (r + 1) _ (rd_cwf G c') (by omega) (by omega) ⟨by rw [rI_n (by omega)]; exact b1.1, fun j hj => by rw [rI_n (by omega)]; exact b1.2 j hj⟩ rI_s (fz_trans a6 (fz_trans b4 fz_wI)) (fun m3 c1 c2 c3 => a7 m3 c1 (by rw [c2]; congr 1; show r + 1 + _ = r + (_ + 1); omega) c3)
        · rw [if_neg hlt]
          refine b_X0_refine_30 ho hx ⟨fun _ => ?_, fun z => absurd rfl z⟩
          rw [rf_2 z hlt] at a7
          exact a7 m2 b1 (by rw [b2, a5]; rfl) (fz_trans a6 b4)
  refine key 7 c q 0 _ hc (by omega) (by omega) ⟨by rw [rI_n (by omega)]; exact hC.1, fun j hj => by rw [rI_n (by omega)]; exact hC.2 j hj⟩ rI_s fz_wI (fun m'' a1 a2 a3 => H m'' a1 (by rw [a2]; congr 1; exact Nat.zero_add _) a3)
theorem q0_pos {G : Gr} (hG : gWF G) : 1 ≤ q0 G := by
  have := (c0_cwf hG.1).1 0 (by have := hG.2.1.1; omega)
  omega
theorem k_begin {o x : Nat} {G : Gr} (ho : sX0 o) (hx : sX1 x) (he : 4 ≤ e) (hG : gWF G) (hp : pG m x G) (hd : o + 5 ≤ x ∨ x + 15 ≤ o)
    (H : ∀ m', pC m' o (gn G) (st G).1 (st G).2.1 → m'.1 o 1 = nI (st G).2.2 → fz o (o + 5) m m' → Q none (mk m')) : Ok g gr e mX0_begin 0 0 [.ref o, .ref x] (mk m) Q := by
  obtain ⟨d, rfl⟩ := dn he
  refine b_X0_begin_0 ho hx (k_byColours ho hx hG hp hd (fun m2 a1 a2 a3 a4 => ?_))
  refine b_X0_begin_5 ho hx (k_refine ho hx (by omega) hG (pG_fz hp a4 (by omega)) hd (c0_cwf hG.1) (q0_pos hG) a1 (fun m3 b1 b2 b3 => ?_))
  exact b_X0_begin_10 (H m3 b1 b2 (fz_trans a4 b3))
theorem k_take0 {o x n q r : Nat} {c : Nat → Nat} (ho : sX0 o) (hx : sX0 x) (he : 2 ≤ e) (hd : o + 5 ≤ x ∨ x + 5 ≤ o) (hC : pC m x n c q) (hq : q ≤ 7) (hr : m.1 x 1 = nI r) (H : ∀ m', pC m' o n c q → m'.1 o 1 = nI r → fz o (o + 5) m m' → Q none (mk m')) : Ok g gr e mX0_take 0 0 [.ref o, .ref x] (mk m) Q := by
  obtain ⟨d, rfl⟩ := dn he
  refine b_X0_take_0 ho hx ?_
  intro m1 e1 m2 e2
  refine H _ ⟨?_, fun j hj => ?_⟩ ?_ (fz_trans (fz_eI e1) (fz_trans (fz_eI e2) fz_wC))
  · rw [wC_1, if_neg (by omega), e2, rI_n (by omega), e1, rI_s]; exact hC.1
  · rw [wC_1, if_pos ⟨rfl, by omega⟩, e2, rI_n (by omega), e1, rI_n (by omega)]; exact hC.2 j hj
  · rw [wC_1, if_neg (by omega), e2, rI_s, e1, rI_n (by omega)]; exact hr
theorem k_mark {o n q r : Nat} {c : Nat → Nat} (ho : sX0 o) (he : 1 ≤ e) (hn : n ≤ 7) (hC : pC m o n c q) (hq : q ≤ 7) (hr : m.1 o 1 = nI r) (H : Q (some (.int (nI (mrk c n q r)))) (mk m)) : Ok g gr e mX0_mark 0 0 [.ref o] (mk m) Q := by
  obtain ⟨d, rfl⟩ := dn he
  refine b_X0_mark_0 ho (up_to (n := q) (P := fun j => WP g gr (d + 1) mX0_mark 0 0 4 [.ref o, .int (nI (nm 10 (cz c n) j)), .int (nI j)] [] (mk m) Q) ?_ (fun j hj ih => ?_) 0 (Nat.zero_le _))
  · refine b_X0_mark_4 ho (pk_le q q (fun _ => ?_) (fun z => absurd z (Nat.lt_irrefl _)) hC.1)
    rw [hr, show (10 : Int32) = nI 10 from rfl, pk_mul, nI_add]
    exact H
  · refine b_X0_mark_4 ho (pk_le q j (fun z => by omega) (fun _ => ⟨pk_in j 7 (by omega), ?_⟩) hC.1)
    rw [nI_clamp (show j < 2 ^ 31 by omega), hC.2 j hj, i_bm hn, show (10 : Int32) = nI 10 from rfl, pk_mul, nI_add, nI_1]
    exact ih
/-- the target as bits; 0: there is none -/
def tgm (c : Nat → Nat) (n q : Nat) : Nat := if tg c n q = 0 then 0 else bm (fun v => c v + 1 == tg c n q) n
theorem tgm_0 {c : Nat → Nat} {n q : Nat} : tgm c n q = 0 ↔ tg c n q = 0 := by
  unfold tgm
  by_cases h : tg c n q = 0
  · rw [if_pos h]; simp [h]
  · rw [if_neg h]
    constructor
    · intro z
      exfalso
      have := tg_size h
      obtain ⟨v, hv, e⟩ := cz_pos.mp (show 0 < cz c n (tg c n q - 1) by omega)
      exact bm_ne0 (p := fun v => c v + 1 == tg c n q) hv (by rw [beq_iff_eq]; omega) z
    · intro z; exact absurd z h
theorem tgm_bit {c : Nat → Nat} {n q v : Nat} (hv : v < n) : (tgm c n q).testBit v = true ↔ (tg c n q ≠ 0 ∧ c v + 1 = tg c n q) := by
  unfold tgm
  by_cases h : tg c n q = 0
  · rw [if_pos h]; simp [h]
  · rw [if_neg h, bm_bit]; simp [hv, h]
theorem tgm_lt {c : Nat → Nat} {n q : Nat} (hn : n ≤ 7) : tgm c n q < 128 := by
  unfold tgm
  split
  · decide
  · exact bm_7 hn
theorem k_target {o n q : Nat} {c : Nat → Nat} (ho : sX0 o) (he : 1 ≤ e) (hn : n ≤ 7) (hC : pC m o n c q) (hq : q ≤ 7) (H : Q (some (.int (nI (tgm c n q)))) (mk m)) : Ok g gr e mX0_target 0 0 [.ref o] (mk m) Q := by
  obtain ⟨d, rfl⟩ := dn he
  refine b_X0_target_0 ho (up_to (n := q) (P := fun j => WP g gr (d + 1) mX0_target 0 0 4 [.ref o, .int (nI (tgm c n j)), .int (nI j), .retAddr 0] [] (mk m) Q) ?_ (fun j hj ih => ?_) 0 (Nat.zero_le _))
  · exact b_X0_target_4 ho (pk_le q q (fun _ => H) (fun z => absurd z (Nat.lt_irrefl _)) hC.1)
  · have hcz := cz_le c n j
    have hnew : ∀ h : 1 < cz c n j ∧ (tg c n j = 0 ∨ cz c n j < cz c n (tg c n j - 1)), tgm c n (j + 1) = bm (fun v => c v == j) n := fun h => by
      unfold tgm
      rw [tg_succ, if_pos h, if_neg (by omega)]
      exact bm_cong fun v _ => by simp
    have hold : ∀ h : ¬ (1 < cz c n j ∧ (tg c n j = 0 ∨ cz c n j < cz c n (tg c n j - 1))), tgm c n (j + 1) = tgm c n j := fun h => by
      unfold tgm
      rw [tg_succ, if_neg h]
    have hl := tgm_lt (c := c) (n := n) (q := j) hn
    refine b_X0_target_4 ho (pk_le q j (fun z => by omega) (fun _ => ⟨pk_in j 7 (by omega), ?_⟩) hC.1)
    rw [nI_clamp (show j < 2 ^ 31 by omega), hC.2 j hj, i_bm hn, nI_1]
    have ecz : fb_ct (fun v => c v == j) n = cz c n j := rfl
    rw [ecz]
    refine pk_le _ 1 (fun z => ?_) (fun z => pk_eq _ 0 (fun z2 => ?_) (fun z2 => ?_))
    · rw [← hold (fun w => by omega)]; exact ih
    · rw [← hnew ⟨z, Or.inl (tgm_0.mp z2)⟩]; exact ih
    · have ht : tg c n j ≠ 0 := fun w => z2 (tgm_0.mpr w)
      have e1 : tgm c n j = bm (fun v => c v == tg c n j - 1) n := by
        unfold tgm
        rw [if_neg ht]
        refine bm_cong fun v _ => ?_
        by_cases w : c v + 1 = tg c n j
        · have : c v = tg c n j - 1 := by omega
          rw [bq_t w, bq_t this]
        · have : c v ≠ tg c n j - 1 := by omega
          rw [bq_f w, bq_f this]
      have hcz2 := cz_le c n (tg c n j - 1)
      have e2 : fBits (nI (tgm c n j)) = nI (cz c n (tg c n j - 1)) := by rw [e1, i_bm hn]; rfl
      rw [e2]
      refine pk_le _ _ (fun z3 => ?_) (fun z3 => ?_)
      · rw [← hold (fun w => by rcases w.2 with w | w <;> omega)]; exact ih
      · rw [← hnew ⟨z, Or.inr z3⟩]; exact ih
theorem k_putAhead {o n q v : Nat} {c : Nat → Nat} (ho : sX0 o) (he : 1 ≤ e) (hn : n ≤ 7) (hC : pC m o n c q) (hc : cwf n c q) (hv : v < n) (H : ∀ m', pC m' o n (pa c n v) (paq c n v q) → m'.1 o 1 = m.1 o 1 → fz o (o + 5) m m' → Q none (mk m')) : Ok g gr e mX0_putAhead 0 0 [.ref o, .int (nI v)] (mk m) Q := by
  obtain ⟨d, rfl⟩ := dn he
  have hq := cwf_le hc
  have hcv := hc.1 v hv
  -- is it alone?
  have alone : bm (fun u => c u == c v) n = 2 ^ v ↔ ¬ 1 < cz c n (c v) := by
    rw [← bm_one hv]
    constructor
    · intro h1 h2
      have e1 : cz c n (c v) ≤ fb_ct (fun i => i == v) n := fb_ct_sub fun k hk hp => by rw [← bm_inj h1 k hk]; exact hp
      have e2 : fb_ct (fun i => i == v) n ≤ 1 := ct_inj (q := fun _ => true) (m := 1) (f := fun _ => 0) (fun _ _ _ => ⟨Nat.one_pos, rfl⟩) (fun i j _ _ a b _ => by
        have a : i = v := by simpa using a
        have b : j = v := by simpa using b
        omega)
      omega
    · intro h
      refine bm_cong fun u hu => ?_
      by_cases z : u = v
      · subst z; simp
      · have : c u ≠ c v := fun w => h (cz_two hu hv z w)
        rw [bq_f this, bq_f z]
  refine b_X0_putAhead_0 ho ?_
  -- from any cell up to its own
  refine up_to (n := q) (P := fun j => (c v < j → ¬ 1 < cz c n (c v)) → WP g gr (d + 1) mX0_putAhead 0 0 2 [.ref o, .int (nI v), .int (nI j), .retAddr 0] [] (mk m) Q) ?_ (fun j hj ih hal => ?_) 0 (Nat.zero_le _) (fun z => absurd z (Nat.not_lt_zero _))
  · intro hal
    have := hal hcv
    refine b_X0_putAhead_2 ho (pk_le q q (fun _ => H m (by unfold pa paq; rw [if_neg this, if_neg this]; exact hC) rfl (fz_refl _ _ _)) (fun z => absurd z (Nat.lt_irrefl _)) hC.1)
  · refine b_X0_putAhead_2 ho (pk_le q j (fun z => by omega) (fun _ => ⟨pk_in j 7 (by omega), ?_⟩) hC.1)
    rw [nI_clamp (show j < 2 ^ 31 by omega), hC.2 j hj, i_in (bm_31 (by omega)) (by omega), bm_bit, i_sh1 (by omega), nI_1]
    have hb := bm_31 (p := fun u => c u == j) (n := n) (by omega)
    have hv7 : (2 : Nat) ^ v < 2 ^ 31 := Nat.pow_lt_pow_right (by decide) (by omega)
    refine ⟨fun hin => ?_, fun hin => ?_⟩
    · have hcj : c v = j := by simpa [hv] using hin
      subst hcj
      refine pk_eq _ _ (fun hs => ?_) (fun hs => pk_le 7 q (fun hfull => ?_) (fun hlt => ?_) rfl hC.1)
      · exact ih fun _ => alone.mp hs
      · have : ¬ 1 < cz c n (c v) := by
          have := cz_room hc hcv
          omega
        exact absurd (alone.mpr this) hs
      · have hbig : 1 < cz c n (c v) := Classical.byContradiction fun z => hs (alone.mpr z)
        rw [hC.1]
        -- the sets move one place
        have key : ∀ t i m', i = c v + t → i ≤ q → (∀ j, j < i + 1 → j < q → m'.1 (o + 1) j = nI (bm (fun u => c u == j) n)) → (∀ j, i < j → j ≤ q → m'.1 (o + 1) j = nI (bm (fun u => c u == j - 1) n)) → m'.1 o 0 = nI q → m'.1 o 1 = m.1 o 1 → fz o (o + 5) m m' → WP g gr (d + 1) mX0_putAhead 0 0 49 [.ref o, .int (nI v), .int (nI (c v)), .int (nI i)] [] (mk m') Q := by
          intro t
          induction t with
          | zero =>
            intro i m' hi hiq a1 a2 a3 a4 a5
            have hi : i = c v := hi
            subst hi
            refine b_X0_putAhead_49 ho (pk_le (c v) (c v) (fun _ => ⟨pk_in (c v) 7 (by omega), ?_⟩) (fun z => absurd z (Nat.lt_irrefl _)))
            rw [nI_clamp (show c v < 2 ^ 31 by omega), nI_1, nI_clamp (show c v + 1 < 2 ^ 31 by omega), i_sh1 (by omega)]
            intro m2 e2
            refine ⟨pk_in (c v + 1) 7 (by omega), ?_⟩
            intro m3 e3
            have r0 : m3.1 o 0 = nI q := by rw [e3, rI_n (by omega), e2, rI_n (by omega)]; exact a3
            have r1 : m2.1 (o + 1) (c v + 1) = nI (bm (fun u => c u == c v) n) := by rw [e2, rI_n (by omega), a2 (c v + 1) (by omega) (by omega)]; rfl
            have e4 : nI (bm (fun u => c u == c v) n) &&& (nI (2 ^ v) ^^^ (-1 : Int32)) = nI (bm (fun u => c u == c v && !(u == v)) n) := by rw [← bm_one hv, i_andn hn]
            rw [r0, nI_1]
            unfold pa paq at H
            rw [if_pos hbig, if_pos hbig] at H
            refine H _ ⟨rI_s, fun j hj => ?_⟩ (by rw [rI_n (by omega), e3, rI_n (by omega), e2, rI_n (by omega)]; exact a4) (fz_trans a5 (fz_trans (fz_eI e2) (fz_trans (fz_eI e3) fz_wI)))
            rw [rI_n (by omega), e3, r1, e4]
            rcases Nat.lt_trichotomy j (c v) with z | z | z
            · rw [rI_n (by omega), e2, rI_n (by omega), a1 j (by omega) (by omega)]
              congr 1
              refine bm_cong fun u _ => ?_
              unfold ap
              by_cases w : u ≠ v ∧ c v ≤ c u
              · rw [if_pos w]
                have h1 : c u ≠ j := by omega
                have h2 : c u + 1 ≠ j := by omega
                rw [bq_f h1, bq_f h2]; try rfl
              · rw [if_neg w]
            · rw [z, rI_n (by omega), e2, rI_s, ← bm_one hv]
              congr 1
              refine bm_cong fun u _ => ?_
              unfold ap
              by_cases w : u ≠ v ∧ c v ≤ c u
              · rw [if_pos w]
                have h2 : c u + 1 ≠ c v := by omega
                rw [bq_f w.1, bq_f h2]
              · rw [if_neg w]
                by_cases w2 : u = v
                · subst w2; simp
                · have : c u ≠ c v := fun w3 => w ⟨w2, by omega⟩
                  rw [bq_f w2, bq_f this]
            · by_cases z2 : j = c v + 1
              · rw [z2, rI_s]
                congr 1
                refine bm_cong fun u _ => ?_
                unfold ap
                by_cases w : u ≠ v ∧ c v ≤ c u
                · rw [if_pos w]
                  rw [bq_f w.1]; simp
                · rw [if_neg w]
                  by_cases w2 : u = v
                  · subst w2; simp
                  · have h1 : c u ≠ c v := fun w3 => w ⟨w2, by omega⟩
                    have h2 : c u ≠ c v + 1 := fun w3 => w ⟨w2, by omega⟩
                    rw [bq_f h1, bq_f h2]; try rfl
              · rw [rI_n (fun w => z2 w.2), e2, rI_n (by omega), a2 j z (by omega)]
                congr 1
                refine bm_cong fun u _ => ?_
                unfold ap
                by_cases w : u ≠ v ∧ c v ≤ c u
                · rw [if_pos w]
                  by_cases w5 : c u = j - 1
                  · rw [bq_t w5, bq_t (show c u + 1 = j by omega)]
                  · rw [bq_f w5, bq_f (show c u + 1 ≠ j by omega)]
                · rw [if_neg w]
                  by_cases w2 : u = v
                  · subst w2
                    have h1 : c u ≠ j - 1 := by omega
                    have h2 : c u ≠ j := by omega
                    rw [bq_f h1, bq_f h2]; try rfl
                  · have w3 : ¬ c v ≤ c u := fun w4 => w ⟨w2, w4⟩
                    have h1 : c u ≠ j - 1 := by omega
                    have h2 : c u ≠ j := by omega
                    rw [bq_f h1, bq_f h2]; try rfl
          | succ t ih2 =>
            intro i m' hi hiq a1 a2 a3 a4 a5
            refine b_X0_putAhead_49 ho (pk_le i (c v) (fun z => by omega) (fun _ => ?_))
            obtain ⟨i', rfl⟩ : ∃ i', i = i' + 1 := ⟨i - 1, by omega⟩
            rw [nI_pred, nI_clamp (show i' < 2 ^ 31 by omega), nI_clamp (show i' + 1 < 2 ^ 31 by omega), pk_m1]
            refine ⟨pk_in i' 7 (by omega), pk_in (i' + 1) 7 (by omega), ?_⟩
            refine ih2 i' _ (by omega) (by omega) (fun j h1 h2 => by rw [rI_n (by omega)]; exact a1 j (by omega) h2) (fun j h1 h2 => ?_) (by rw [rI_n (by omega)]; exact a3) (by rw [rI_n (by omega)]; exact a4) (fz_trans a5 fz_wI)
            by_cases z : j = i' + 1
            · subst z
              rw [rI_s, a1 i' (by omega) (by omega)]; rfl
            · rw [rI_n (fun w => z w.2)]; exact a2 j (by omega) h2
        exact key (q - c v) q m (by omega) (Nat.le_refl q) (fun j _ hj => hC.2 j hj) (fun j h1 h2 => by omega) hC.1 rfl (fz_refl _ _ _)
    · have hcj : c v ≠ j := fun z => hin (by simp [hv, z])
      exact ih fun z => hal (by omega)
end ZCl
