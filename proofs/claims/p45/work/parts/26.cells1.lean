/-! the class Cells: colours, signs, a round -/
def pC (m : zm) (o n : Nat) (c : Nat → Nat) (q : Nat) : Prop := m.1 o 0 = nI q ∧ ∀ j, j < q → m.1 (o + 1) j = nI (bm (fun v => c v == j) n)
theorem pC_fz {lo hi : Nat} {m m' : zm} {o n q : Nat} {c : Nat → Nat} (h : pC m o n c q) (f : fz lo hi m m') (d : o + 5 ≤ lo ∨ hi ≤ o) : pC m' o n c q := ⟨by rw [fz_1 f (by omega)]; exact h.1, fun j hj => by rw [fz_1 f (by omega)]; exact h.2 j hj⟩
theorem pC_cong {m : zm} {o n q : Nat} {c c' : Nat → Nat} (h : pC m o n c q) (e : ∀ v, v < n → c v = c' v) : pC m o n c' q := ⟨h.1, fun j hj => by rw [h.2 j hj, bm_cong (fun v hv => by rw [e v hv])]⟩
theorem bm_w {p : Nat → Bool} {n : Nat} (hn : n ≤ 7) : bm p n = bm (fun v => decide (v < n) && p v) 7 := bits_eq (n := 7) (bm_7 hn) (bm_lt _ 7) fun i hi => by rw [bm_bit, bm_bit]; simp [hi]
theorem ct_w {p : Nat → Bool} {n : Nat} (hn : n ≤ 7) : fb_ct (fun v => decide (v < n) && p v) 7 = fb_ct p n := by
  rw [ct_trim hn (fun i h1 _ => by simp [Nat.not_lt.mpr h1])]
  exact fb_ct_cong fun v hv => by simp [hv]
theorem nm_head {B : Nat} {f : Nat → Nat} : ∀ k, nm B f (k + 1) = f 0 * B ^ k + nm B (fun i => f (i + 1)) k := by
  intro k
  induction k with
  | zero => show B * 0 + f 0 = f 0 * B ^ 0 + 0; simp
  | succ k ih =>
    show B * nm B f (k + 1) + f (k + 1) = f 0 * B ^ (k + 1) + (B * nm B (fun i => f (i + 1)) k + f (k + 1))
    rw [ih, Nat.mul_add, Nat.pow_succ, Nat.mul_comm (B ^ k) B, Nat.mul_left_comm]
    omega
/-- a sign without its first number -/
def sg (G : Gr) (c : Nat → Nat) (v t : Nat) : Nat := nm 8 (fun i => dg G c v (i + 1)) t
theorem sg_lt {G : Gr} {c : Nat → Nat} {v t : Nat} (hn : gn G ≤ 7) : sg G c v t < 8 ^ t := nm_lt fun i _ => by
  unfold dg; rw [if_neg (by omega)]; exact Nat.lt_of_le_of_lt (fb_ct_le _ _) (by omega)
theorem sg_63 {G : Gr} {c : Nat → Nat} {v t : Nat} (hn : gn G ≤ 7) (ht : t ≤ 21) : sg G c v t < 2 ^ 63 := by
  have h1 := sg_lt (G := G) (c := c) (v := v) (t := t) hn
  have h2 : 8 ^ t ≤ 8 ^ 21 := Nat.pow_le_pow_right (by decide) ht
  have h3 : (8 : Nat) ^ 21 = 2 ^ 63 := by decide
  omega
theorem sS_sg {G : Gr} {c : Nat → Nat} {q v : Nat} (hG : gOK G) (hc : cwf (gn G) c q) (hq : q ≤ 7) : sS G c v = c v * 8 ^ 21 + sg G c v (3 * q) * 8 ^ (21 - 3 * q) := by
  unfold sS
  rw [nm_head, nm_low (show 3 * q ≤ 21 by omega) (fun i h1 h2 => ?_)]
  · rfl
  · show dg G c v (i + 1) = 0
    unfold dg
    rw [if_neg (by omega)]
    refine ct_0 fun u hu => ?_
    have a := hc.1 u hu
    have b := hG.2.1 v u
    have : (3 * c u + gk G v u == i + 1) = false := by rw [beq_eq_false_iff_ne]; omega
    rw [this, Bool.and_false]
theorem sS_cmp {G : Gr} {c : Nat → Nat} {q u v : Nat} (hG : gWF G) (hc : cwf (gn G) c q) : sS G c u < sS G c v ↔ c u < c v ∨ (c u = c v ∧ sg G c u (3 * q) < sg G c v (3 * q)) := by
  have hq : q ≤ 7 := by have := cwf_le hc; have := hG.2.1.2; omega
  rw [sS_sg hG.1 hc hq, sS_sg hG.1 hc hq]
  have b : ∀ v, sg G c v (3 * q) * 8 ^ (21 - 3 * q) < 8 ^ 21 := fun v => by
    have h1 := sg_lt (G := G) (c := c) (v := v) (t := 3 * q) hG.2.1.2
    have h2 : (8 : Nat) ^ (3 * q) * 8 ^ (21 - 3 * q) = 8 ^ 21 := by rw [← Nat.pow_add]; congr 1; omega
    rw [← h2]
    exact Nat.mul_lt_mul_of_pos_right h1 (Nat.pow_pos (by decide))
  have bu := b u
  have bv := b v
  have hp : 0 < 8 ^ (21 - 3 * q) := Nat.pow_pos (by decide)
  generalize hA : sg G c u (3 * q) = A at *
  generalize hB : sg G c v (3 * q) = B at *
  generalize hP : 8 ^ (21 - 3 * q) = P at *
  have hM : (8 : Nat) ^ 21 = 9223372036854775808 := by decide
  rw [hM] at bu bv ⊢
  rcases Nat.lt_trichotomy (c u) (c v) with h | h | h
  · constructor
    · intro _; exact Or.inl h
    · intro _; omega
  · rw [h]
    constructor
    · intro z
      right
      refine ⟨rfl, Nat.lt_of_mul_lt_mul_right (a := P) (by omega)⟩
    · rintro (z | ⟨_, z⟩)
      · exact absurd z (Nat.lt_irrefl _)
      · have := Nat.mul_lt_mul_of_pos_right z hp
        omega
  · constructor
    · intro z; omega
    · rintro (z | ⟨z, _⟩) <;> omega
theorem dg_3 {G : Gr} {c : Nat → Nat} (hG : gOK G) {v j k : Nat} (hk : 1 ≤ k ∧ k < 4) : dg G c v (3 * j + k) = fb_ct (fun u => lk k (gk G v u) && c u == j) (gn G) := by
  unfold dg
  rw [if_neg (by omega)]
  refine fb_ct_cong fun u _ => ?_
  have b := hG.2.1 v u
  unfold lk
  rw [if_neg (by omega)]
  by_cases h1 : gk G v u = k
  · have e1 : (gk G v u == k) = true := by simp [h1]
    by_cases h2 : c u = j
    · have : (3 * c u + gk G v u == 3 * j + k) = true := by rw [beq_iff_eq]; omega
      rw [this, e1]; simp [h2]; omega
    · have : (3 * c u + gk G v u == 3 * j + k) = false := by rw [beq_eq_false_iff_ne]; omega
      rw [this, e1]; simp [h2]
  · have e1 : (gk G v u == k) = false := by simp [h1]
    rw [e1, Bool.false_and]
    by_cases h3 : 3 * c u + gk G v u = 3 * j + k
    · have : gk G v u = 0 ∨ gk G v u ≠ 0 := by omega
      have : gk G v u = 0 := by omega
      simp [this]
    · have : (3 * c u + gk G v u == 3 * j + k) = false := by simp [h3]
      rw [this, Bool.and_false]
section ZCl
variable {g : zG} {gr : Bool} {e : Nat} {m : zm} {Q : Option Value → zH → Prop}
theorem k_byColours {o x : Nat} {G : Gr} (ho : sX0 o) (hx : sX1 x) (hG : gWF G) (hp : pG m x G) (hd : o + 5 ≤ x ∨ x + 15 ≤ o) (H : ∀ m', pC m' o (gn G) (c0 G) (q0 G) → m'.1 o 1 = nI 0 → (∀ v, v < gn G → m'.2 (o + 2) (c0 G v) = lN (gc G v)) → fz o (o + 5) m m' → Q none (mk m')) : Ok g gr e mX0_byColours 0 0 [.ref o, .ref x] (mk m) Q := by
  have h7 := hG.2.1.2
  have hcw := c0_cwf hG.1
  have hq7 : q0 G ≤ 7 := by have := cwf_le hcw; omega
  have mono : ∀ k, k ≤ 10 → fb_ct (oc G) k ≤ q0 G := fun k hk => fb_ct_mono (oc G) hk
  refine b_X0_byColours_0 (d := e) ho hx ?_
  intro m1 e1
  refine up_to (n := 10) (P := fun k => ∀ m', m'.1 o 0 = nI (fb_ct (oc G) k) → (∀ j, j < fb_ct (oc G) k → m'.1 (o + 1) j = nI (bm (fun v => c0 G v == j) (gn G))) → m'.1 o 1 = nI 0 → (∀ v, v < gn G → c0 G v < fb_ct (oc G) k → m'.2 (o + 2) (c0 G v) = lN (gc G v)) → fz o (o + 5) m m' → WP g gr e mX0_byColours 0 0 12 [.ref o, .ref x, .int (nI k), .retAddr 0, .retAddr 0] [] (mk m') Q) ?_ ?_ 0 (Nat.zero_le _) _ ?_ ?_ ?_ ?_ ?_
  · intro m' h1 h2 h3 h4 h5
    exact b_X0_byColours_12 (d := e) ho hx (pk_le 10 10 (fun _ => H m' ⟨h1, h2⟩ h3 (fun v hv => h4 v hv (hcw.1 v hv)) h5) (fun z => absurd z (Nat.lt_irrefl _)))
  · intro k hk ih m' h1 h2 h3 h4 h5
    have hmk := mono k (by omega)
    refine b_X0_byColours_12 (d := e) ho hx (pk_le 10 k (fun z => by omega) (fun _ => pk_le 7 (fb_ct (oc G) k) (fun hfull => ?_) (fun hlt => ?_) rfl h1))
    · have eq : fb_ct (oc G) k = q0 G := by omega
      rw [eq] at h1 h2 h4
      exact H m' ⟨h1, h2⟩ h3 (fun v hv => h4 v hv (hcw.1 v hv)) h5
    · refine up_to (n := gn G) (P := fun v => WP g gr e mX0_byColours 0 0 32 [.ref o, .ref x, .int (nI k), .int (nI (bm (fun u => gc G u == k) v)), .int (nI v)] [] (mk m') Q) ?_ ?_ 0 (Nat.zero_le _)
      · refine b_X0_byColours_32 (d := e) ho hx (pk_le (gn G) (gn G) (fun _ => ?_) (fun z => absurd z (Nat.lt_irrefl _)) (by rw [fz_1 h5 (by omega)]; exact hp.1))
        have hb := bm_31 (p := fun u => gc G u == k) (n := gn G) (by omega)
        refine pk_eq _ 0 (fun hz => ?_) (fun hz => ?_)
        · have hno : oc G k = false := by
            cases hoc : oc G k with
            | false => rfl
            | true =>
              obtain ⟨v, hv, ev⟩ := oc_iff.mp hoc
              exact absurd hz (bm_ne0 hv (by simp [ev]))
          have e2 : fb_ct (oc G) (k + 1) = fb_ct (oc G) k := fb_ct_succ _ _ |>.trans (by rw [hno]; rfl)
          rw [nI_1]
          exact ih m' (by rw [e2]; exact h1) (by rw [e2]; exact h2) h3 (by rw [e2]; exact h4) h5
        · have hyes : oc G k = true := by
            cases hoc : oc G k with
            | true => rfl
            | false =>
              exfalso
              apply hz
              refine bm_0 fun v hv => ?_
              rw [beq_eq_false_iff_ne]
              intro ev
              have := oc_iff.mpr ⟨v, hv, ev⟩
              rw [hoc] at this; cases this
          have e2 : fb_ct (oc G) (k + 1) = fb_ct (oc G) k + 1 := (fb_ct_succ _ _).trans (by rw [hyes]; rfl)
          have hcell : ∀ v, v < gn G → (c0 G v == fb_ct (oc G) k) = (gc G v == k) := fun v hv => by
            by_cases z : gc G v = k
            · rw [show (gc G v == k) = true by simp [z], beq_iff_eq]; unfold c0; rw [z]
            · rw [show (gc G v == k) = false by simp [z], beq_eq_false_iff_ne]
              intro z2
              exact z (fb_ct_kth_one (oc_iff.mpr ⟨v, hv, rfl⟩) hyes z2)
          rw [h1, nI_clamp (show fb_ct (oc G) k < 2 ^ 31 by omega)]
          refine ⟨pk_in _ 7 hlt, ?_⟩
          intro m2 e3
          have r0 : m2.1 o 0 = nI (fb_ct (oc G) k) := by rw [e3, rI_n (by omega)]; exact h1
          rw [r0, nI_clamp (show fb_ct (oc G) k < 2 ^ 31 by omega), nI_l (show k < 2 ^ 31 by omega)]
          refine ⟨pk_in _ 7 hlt, ?_⟩
          intro m3 e4
          have r1 : m3.1 o 0 = nI (fb_ct (oc G) k) := by rw [e4, wL_1]; exact r0
          rw [r1, nI_1, nI_1]
          refine ih _ (by rw [rI_s, e2]) (fun j hj => ?_) (by rw [rI_n (by omega), e4, wL_1, e3, rI_n (by omega)]; exact h3) (fun v hv hlt2 => ?_) (fz_trans h5 (fz_trans (fz_eI e3) (fz_trans (fz_eL e4) fz_wI)))
          · rw [rI_n (by omega), e4, wL_1, e3]
            by_cases z : j = fb_ct (oc G) k
            · subst z
              rw [rI_s]
              congr 1
              exact bm_cong fun v hv => (hcell v hv).symm
            · rw [rI_n (fun w => z w.2)]
              exact h2 j (by omega)
          · rw [wI_2, e4]
            by_cases z : c0 G v = fb_ct (oc G) k
            · rw [z, rL_s]
              have : gc G v = k := by
                have := hcell v hv
                rw [z] at this
                simpa using this.symm
              rw [this]
            · rw [rL_n (fun w => z w.2), e3, wI_2]
              exact h4 v hv (by omega)
      · intro v hv ih2
        refine b_X0_byColours_32 (d := e) ho hx (pk_le (gn G) v (fun z => by omega) (fun _ => ⟨pk_in v 7 (by omega), ?_⟩) (by rw [fz_1 h5 (by omega)]; exact hp.1))
        rw [nI_clamp (show v < 2 ^ 31 by omega), fz_1 h5 (by omega), hp.2.1 v (by omega)]
        have hcol := hG.1.1 v
        have hb := bm_31 (p := fun u => gc G u == k) (n := v) (by omega)
        refine ⟨fun z => ?_, fun z => ?_⟩
        · rw [nI_eq (by omega) (by omega)] at z
          rw [nI_1, ← bm_skip (p := fun u => gc G u == k) (by simp [z])]
          exact ih2
        · rw [nI_eq (by omega) (by omega)] at z
          rw [nI_1, i_sh1 (by omega), fa_or, bm_put (p := fun u => gc G u == k) (by simp [z])]
          exact ih2
  · rw [rI_n (by omega), e1, rI_s]; rfl
  · intro j hj; exact absurd hj (Nat.not_lt_zero _)
  · rw [rI_s]; rfl
  · intro v _ hlt; exact absurd hlt (Nat.not_lt_zero _)
  · exact fz_trans (fz_eI e1) fz_wI
theorem k_signOf {o x v q : Nat} {G : Gr} {c : Nat → Nat} (ho : sX0 o) (hx : sX1 x) (he : 1 ≤ e) (hG : gWF G) (hp : pG m x G) (hC : pC m o (gn G) c q) (hq : q ≤ 7) (hv : v < gn G) (H : Q (some (.long (lN (sg G c v (3 * q))))) (mk m)) : Ok g gr e mX0_signOf 0 0 [.ref o, .ref x, .int (nI v)] (mk m) Q := by
  obtain ⟨d, rfl⟩ := dn he
  have h7 := hG.2.1.2
  refine b_X0_signOf_0 ho hx (up_to (n := q) (P := fun j => WP g gr (d + 1) mX0_signOf 0 0 5 [.ref o, .ref x, .int (nI v), .long (lN (sg G c v (3 * j))), .retAddr 1, .int (nI j), .retAddr 0] [] (mk m) Q) ?_ (fun j hj ih => ?_) 0 (Nat.zero_le _))
  · exact b_X0_signOf_5 ho hx (pk_le q q (fun _ => H) (fun z => absurd z (Nat.lt_irrefl _)) hC.1)
  · refine b_X0_signOf_5 ho hx (pk_le q j (fun z => by omega) (fun _ => ?_) hC.1)
    refine up_to (n := 3) (P := fun k => WP g gr (d + 1) mX0_signOf 0 0 17 [.ref o, .ref x, .int (nI v), .long (lN (sg G c v (3 * j + k))), .retAddr 1, .int (nI j), .int (nI (k + 1))] [] (mk m) Q) ?_ (fun k hk ih2 => ?_) 0 (Nat.zero_le _)
    · refine b_X0_signOf_17 ho hx (pk_le 4 4 (fun _ => ?_) (fun z => absurd z (Nat.lt_irrefl _)))
      rw [nI_1]; exact ih
    · refine b_X0_signOf_17 ho hx (pk_le 4 (k + 1) (fun z => by omega) (fun _ => ⟨pk_in (k + 1) 4 (by omega), pk_in v 7 (by omega), pk_in j 7 (by omega), ?_⟩))
      rw [nI_clamp (show k + 1 < 2 ^ 31 by omega), nI_clamp (show v < 2 ^ 31 by omega), nI_clamp (show j < 2 ^ 31 by omega), hp.2.2.2 (k + 1) v (by omega) (by omega), hC.2 j hj, bm_w (n := gn G) h7, fa_and, bm_and, i_bm (Nat.le_refl 7)]
      have e1 : fb_ct (fun i => lk (k + 1) (gk G v i) && (decide (i < gn G) && c i == j)) 7 = dg G c v (3 * j + (k + 1)) := by
        rw [dg_3 hG.1 (by omega), ← ct_w h7]
        refine fb_ct_cong fun i _ => ?_
        cases decide (i < gn G) <;> simp
      have hdl : dg G c v (3 * j + (k + 1)) < 8 := by unfold dg; rw [if_neg (by omega)]; exact Nat.lt_of_le_of_lt (fb_ct_le _ _) (by omega)
      rw [e1, nI_l (by omega), show (3 : Int32) = nI 3 from rfl, wb_shl _ (by decide), show sg G c v (3 * j + k) * 2 ^ 3 = 2 ^ 3 * sg G c v (3 * j + k) from Nat.mul_comm _ _, fb_or_sumL _ (show dg G c v (3 * j + (k + 1)) < 2 ^ 3 from hdl), nI_1]
      exact ih2
end ZCl
