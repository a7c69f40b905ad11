/-! by which round two graphs are told apart -/
/-- from like signs like ranks -/
theorem slk_rd {G H : Gr} {c1 c2 : Nat → Nat} (hn : gn G = gn H) (h : slk G H c1 c2) : rq H c2 = rq G c1 ∧ ∀ u w, u < gn G → w < gn G → (rd G c1 u = rd H c2 w ↔ sS G c1 u = sS H c2 w) := by
  have hG := rd_Dn G c1
  have hH := rd_Dn H c2
  rw [← hn] at hH
  -- each sign of the other one is one of this
  have sub : ∀ w, w < gn G → ∃ u, u < gn G ∧ sS G c1 u = sS H c2 w := by
    intro w hw
    apply Classical.byContradiction
    intro hno
    -- then this one has fewer than all
    have e1 : ∀ s : Nat → Nat, ∀ n, fb_sm (fun v => if fs s v = true then fb_ct (fun o => s o == s v) n else 0) n = n := by
      intro s n
      -- each one is counted at the first with its sign
      have key : ∀ k, k ≤ n → fb_sm (fun v => if fs s v = true then fb_ct (fun o => s o == s v) k else 0) n = k := by
        intro k
        induction k with
        | zero => intro _; have : fb_sm (fun v => if fs s v = true then fb_ct (fun o => s o == s v) 0 else 0) n = fb_sm (fun _ => 0) n := fb_sm_cong fun v _ => by split <;> rfl
                  rw [this, fb_sm_const]; omega
        | succ k ih =>
          intro hk
          obtain ⟨o, h1, h2, h3⟩ := fs_ex (n := n) s (show k < n by omega)
          have e2 : fb_sm (fun v => if fs s v = true then fb_ct (fun o => s o == s v) (k + 1) else 0) n = fb_sm (fun v => (if fs s v = true then fb_ct (fun o => s o == s v) k else 0) + (if v = o then 1 else 0)) n := fb_sm_cong fun v hv => by
            have es : fb_ct (fun o => s o == s v) (k + 1) = fb_ct (fun o => s o == s v) k + (if (s k == s v) = true then 1 else 0) := fb_ct_succ _ _
            by_cases z : fs s v = true
            · rw [if_pos z, if_pos z, es]
              by_cases z2 : v = o
              · subst z2; rw [if_pos rfl, bq_t h2.symm]; rfl
              · have : s k ≠ s v := fun w => by
                  have a := fs_iff.mp z
                  have b := fs_iff.mp h3
                  rcases Nat.lt_trichotomy v o with q | q | q
                  · exact b v q (by omega)
                  · exact z2 q
                  · exact a o q (by omega)
                rw [if_neg z2, bq_f this]; rfl
            · rw [if_neg z, if_neg z]
              have : v ≠ o := fun w => z (by rw [w]; exact h3)
              rw [if_neg this]
          rw [e2, fb_sm_add, ih (by omega)]
          have e3 : fb_sm (fun v => if v = o then 1 else 0) n = 1 := by
            have := fb_sm_upd (fun _ => 0) 1 (i := o) (n := n) h1
            rw [fb_sm_const] at this
            have e4 : fb_sm (fun k => if k = o then 1 else 0) n + 0 = n * 0 + 1 := this
            omega
          omega
      exact key n (Nat.le_refl n)
    have a1 := e1 (sS G c1) (gn G)
    have a2 : fb_sm (fun v => if fs (sS G c1) v = true then fb_ct (fun o => sS G c1 o == sS G c1 v) (gn G) else 0) (gn G) = fb_sm (fun v => if fs (sS G c1) v = true then fb_ct (fun o => sS H c2 o == sS G c1 v) (gn G) else 0) (gn G) := fb_sm_cong fun v hv => by
      split
      · exact h v hv
      · rfl
    -- and those of the other one that are one of these are fewer than all
    have a3 : ∀ n, fb_sm (fun v => if fs (sS G c1) v = true then fb_ct (fun o => sS H c2 o == sS G c1 v) (gn G) else 0) n ≤ fb_ct (fun o => !(fb_ct (fun v => sS H c2 o == sS G c1 v) n == 0)) (gn G) := by
      intro n
      induction n with
      | zero => exact Nat.zero_le _
      | succ n ih =>
        rw [fb_sm_succ]
        by_cases z : fs (sS G c1) n = true
        · rw [if_pos z]
          have e5 : fb_ct (fun o => (!(fb_ct (fun v => sS H c2 o == sS G c1 v) n == 0)) || (sS H c2 o == sS G c1 n)) (gn G) = fb_ct (fun o => !(fb_ct (fun v => sS H c2 o == sS G c1 v) n == 0)) (gn G) + fb_ct (fun o => sS H c2 o == sS G c1 n) (gn G) := fb_ct_or fun o _ hb => by
            have b1 : fb_ct (fun v => sS H c2 o == sS G c1 v) n ≠ 0 := by
              intro w
              rw [w] at hb
              exact absurd hb.1 (by decide)
            obtain ⟨v, v1, v2⟩ := fb_ct_pos.mp (show 0 < fb_ct (fun v => sS H c2 o == sS G c1 v) n by omega)
            have v2 : sS H c2 o = sS G c1 v := by simpa using v2
            have b2 : sS H c2 o = sS G c1 n := by simpa using hb.2
            exact fs_iff.mp z v v1 (by omega)
          have e6 : fb_ct (fun o => (!(fb_ct (fun v => sS H c2 o == sS G c1 v) n == 0)) || (sS H c2 o == sS G c1 n)) (gn G) ≤ fb_ct (fun o => !(fb_ct (fun v => sS H c2 o == sS G c1 v) (n + 1) == 0)) (gn G) := fb_ct_sub fun o _ hp => by
            rw [Bool.or_eq_true] at hp
            have es : fb_ct (fun v => sS H c2 o == sS G c1 v) (n + 1) = fb_ct (fun v => sS H c2 o == sS G c1 v) n + (if (sS H c2 o == sS G c1 n) = true then 1 else 0) := fb_ct_succ _ _
            have : fb_ct (fun v => sS H c2 o == sS G c1 v) (n + 1) ≠ 0 := by
              rcases hp with hp | hp
              · intro w
                have w2 : fb_ct (fun v => sS H c2 o == sS G c1 v) n = 0 := by omega
                rw [w2] at hp
                exact absurd hp (by decide)
              · rw [es, if_pos hp]; omega
            rw [bq_f this]; rfl
          omega
        · rw [if_neg z]
          have e6 : fb_ct (fun o => !(fb_ct (fun v => sS H c2 o == sS G c1 v) n == 0)) (gn G) ≤ fb_ct (fun o => !(fb_ct (fun v => sS H c2 o == sS G c1 v) (n + 1) == 0)) (gn G) := fb_ct_sub fun o _ hp => by
            have es : fb_ct (fun v => sS H c2 o == sS G c1 v) (n + 1) = fb_ct (fun v => sS H c2 o == sS G c1 v) n + (if (sS H c2 o == sS G c1 n) = true then 1 else 0) := fb_ct_succ _ _
            have : fb_ct (fun v => sS H c2 o == sS G c1 v) (n + 1) ≠ 0 := by
              intro w
              have w2 : fb_ct (fun v => sS H c2 o == sS G c1 v) n = 0 := by omega
              rw [w2] at hp
              exact absurd hp (by decide)
            rw [bq_f this]; rfl
          omega
    have a4 := a3 (gn G)
    have a5 : fb_ct (fun o => !(fb_ct (fun v => sS H c2 o == sS G c1 v) (gn G) == 0)) (gn G) < fb_ct (fun _ => true) (gn G) := ct_lt (k := w) (fun _ _ _ => rfl) hw rfl (by
      have : fb_ct (fun v => sS H c2 w == sS G c1 v) (gn G) = 0 := ct_0 fun v hv => bq_f fun z => hno ⟨v, hv, z.symm⟩
      rw [this]; rfl)
    have a6 := fb_ct_le (fun _ => true) (gn G)
    omega
  have sup : ∀ u, u < gn G → ∃ w, w < gn G ∧ sS H c2 w = sS G c1 u := fun u hu => by
    have h1 : 0 < fb_ct (fun o => sS G c1 o == sS G c1 u) (gn G) := fb_ct_pos.mpr ⟨u, hu, bq_t rfl⟩
    rw [h u hu] at h1
    obtain ⟨w, hw, e⟩ := fb_ct_pos.mp h1
    exact ⟨w, hw, by simpa using e⟩
  have all : ∀ w, ∃ u, w < gn G → (u < gn G ∧ sS G c1 u = sS H c2 w) := fun w => by
    by_cases hw : w < gn G
    · obtain ⟨u, hu⟩ := sub w hw; exact ⟨u, fun _ => hu⟩
    · exact ⟨0, fun z => absurd z hw⟩
  obtain ⟨f, hf⟩ := Classical.axiomOfChoice all
  have hD : Dn (gn G) (sS H c2) (fun w => rd G c1 (f w)) (rq G c1) := by
    refine ⟨fun a b ha hb => ?_, fun w hw => hG.2.1 _ (hf w hw).1, fun j hj => ?_⟩
    · rw [← (hf a ha).2, ← (hf b hb).2]
      exact hG.1 _ _ (hf a ha).1 (hf b hb).1
    · obtain ⟨u, hu, e⟩ := hG.2.2 j hj
      obtain ⟨w, hw, e2⟩ := sup u hu
      refine ⟨w, hw, ?_⟩
      have := (Dn_eq hG (hf w hw).1 hu).mpr ((hf w hw).2.trans e2)
      show rd G c1 (f w) = j
      omega
  refine ⟨Dn_q hH hD, fun u w hu hw => ?_⟩
  have e1 := Dn_one hH hD w hw
  have e1 : rd H c2 w = rd G c1 (f w) := e1
  rw [e1, Dn_eq hG hu (hf w hw).1, (hf w hw).2]
theorem sS_x {G H : Gr} {c1 c2 : Nat → Nat} {q u w : Nat} (hG : gWF G) (hH : gWF H) (hn : gn G = gn H) (h1 : cwf (gn G) c1 q) (h2 : cwf (gn G) c2 q) : sS G c1 u = sS H c2 w ↔ c1 u = c2 w ∧ sg G c1 u (3 * q) = sg H c2 w (3 * q) := by
  have hq : q ≤ 7 := by have := cwf_le h1; have := hG.2.1.2; omega
  rw [sS_sg hG.1 h1 hq, sS_sg hH.1 (by rw [← hn]; exact h2) hq]
  have e2 : (8 : Nat) ^ (3 * q) * 8 ^ (21 - 3 * q) = 8 ^ 21 := by rw [← Nat.pow_add]; congr 1; omega
  have hp : 0 < 8 ^ (21 - 3 * q) := Nat.pow_pos (by decide)
  have b1 : sg G c1 u (3 * q) * 8 ^ (21 - 3 * q) < 8 ^ 21 := by rw [← e2]; exact Nat.mul_lt_mul_of_pos_right (sg_lt hG.2.1.2) hp
  have b2 : sg H c2 w (3 * q) * 8 ^ (21 - 3 * q) < 8 ^ 21 := by rw [← e2]; exact Nat.mul_lt_mul_of_pos_right (sg_lt hH.2.1.2) hp
  generalize sg G c1 u (3 * q) = A at *
  generalize sg H c2 w (3 * q) = B at *
  generalize 8 ^ (21 - 3 * q) = P at *
  have hM : (8 : Nat) ^ 21 = 9223372036854775808 := by decide
  rw [hM] at *
  constructor
  · intro h
    have e : A * P = B * P := by omega
    exact ⟨by omega, Nat.eq_of_mul_eq_mul_right hp e⟩
  · rintro ⟨h1, h2⟩
    rw [h1, h2]
/-- how many have a lesser cell -/
def cle (c : Nat → Nat) (n p : Nat) : Nat := fb_ct (fun o => decide (c o < p)) n
theorem cle_succ (c : Nat → Nat) (n p : Nat) : cle c n (p + 1) = cle c n p + cz c n p := by
  unfold cle cz
  rw [← fb_ct_or (p := fun o => decide (c o < p)) (q := fun o => c o == p) (fun k _ hb => by
    have h1 : c k < p := by simpa using hb.1
    have h2 : c k = p := by simpa using hb.2
    omega)]
  exact fb_ct_cong fun o _ => by
    rw [Bool.eq_iff_iff, Bool.or_eq_true, decide_eq_true_iff, decide_eq_true_iff, beq_iff_eq]; omega
theorem cle_same {c1 c2 : Nat → Nat} {n q : Nat} (h : ∀ j, j < q → cz c1 n j = cz c2 n j) : ∀ p, p ≤ q → cle c1 n p = cle c2 n p := by
  intro p
  induction p with
  | zero => intro _; exact fb_ct_cong fun o _ => decide_eq_decide.mpr (by omega)
  | succ p ih => intro hp; rw [cle_succ, cle_succ, ih (by omega), h p (by omega)]
theorem cle_mono {c : Nat → Nat} {n p p' : Nat} (h : p ≤ p') : cle c n p ≤ cle c n p' := fb_ct_sub fun o _ hp => by
  have hp : c o < p := by simpa using hp
  exact decide_eq_true (by omega)
/-- the rows of cells behind a round are alike just where the signs are -/
theorem alike_iff {G H : Gr} {c1 c2 : Nat → Nat} {q : Nat} (hG : gWF G) (hH : gWF H) (hn : gn G = gn H) (h1 : cwf (gn G) c1 q) (h2 : cwf (gn G) c2 q) (hs : ∀ j, j < q → cz c1 (gn G) j = cz c2 (gn G) j) : slk G H c1 c2 ↔ (rq G c1 = rq H c2 ∧ ∀ j, j < rq G c1 → (∀ u w, u < gn G → w < gn G → rd G c1 u = j → rd H c2 w = j → sg G c1 u (3 * q) = sg H c2 w (3 * q)) ∧ cz (rd G c1) (gn G) j = cz (rd H c2) (gn G) j) := by
  have hDG := rd_Dn G c1
  have hDH := rd_Dn H c2
  rw [← hn] at hDH
  constructor
  · intro h
    obtain ⟨e1, e2⟩ := slk_rd hn h
    refine ⟨e1.symm, fun j hj => ⟨fun u w hu hw eu ew => ?_, ?_⟩⟩
    · exact ((sS_x hG hH hn h1 h2).mp ((e2 u w hu hw).mp (by omega))).2
    · obtain ⟨u, hu, eu⟩ := hDG.2.2 j hj
      have a1 : cz (rd G c1) (gn G) j = fb_ct (fun o => sS G c1 o == sS G c1 u) (gn G) := fb_ct_cong fun o ho => by
        by_cases z : rd G c1 o = j
        · rw [bq_t z, bq_t ((Dn_eq hDG ho hu).mp (by omega))]
        · rw [bq_f z, bq_f (fun w => z (by have := (Dn_eq hDG ho hu).mpr w; omega))]
      have a2 : cz (rd H c2) (gn G) j = fb_ct (fun o => sS H c2 o == sS G c1 u) (gn G) := fb_ct_cong fun o ho => by
        by_cases z : rd H c2 o = j
        · rw [bq_t z, bq_t ((e2 u o hu ho).mp (by omega)).symm]
        · rw [bq_f z, bq_f (fun w => z (by have := (e2 u o hu ho).mpr w.symm; omega))]
      rw [a1, a2]; exact h u hu
  · rintro ⟨e1, e2⟩
    have new := cle_same (c1 := rd G c1) (c2 := rd H c2) (n := gn G) (q := rq G c1) (fun j hj => (e2 j hj).2)
    have old := cle_same hs
    have h7 := hG.2.1.2
    -- like cells have like parents
    have par : ∀ u w, u < gn G → w < gn G → rd G c1 u = rd H c2 w → c1 u = c2 w := by
      intro u w hu hw e
      have side : ∀ (K : Gr) (c : Nat → Nat) (x : Nat), gn K = gn G → gWF K → cwf (gn G) c q → x < gn G → cle c (gn G) (c x) ≤ cle (rd K c) (gn G) (rd K c x) ∧ cle (rd K c) (gn G) (rd K c x) < cle c (gn G) (c x + 1) := by
        intro K c x hK hKw hc hx
        refine ⟨fb_ct_sub fun o ho hp => ?_, ct_lt (k := x) (fun o ho hp => ?_) hx (decide_eq_true (by omega)) (decide_eq_false (by omega))⟩
        · have hp : c o < c x := by simpa using hp
          exact decide_eq_true (rd_lt (G := K) hKw.2.1.2 (by rw [hK]; exact hc) (by rw [hK]; exact ho) (by rw [hK]; exact hx) hp)
        · have hp : rd K c o < rd K c x := by simpa using hp
          refine decide_eq_true ?_
          apply Classical.byContradiction
          intro z
          have := rd_lt (G := K) hKw.2.1.2 (by rw [hK]; exact hc) (by rw [hK]; exact hx) (by rw [hK]; exact ho) (show c x < c o by omega)
          omega
      obtain ⟨a1, a2⟩ := side G c1 u rfl hG h1 hu
      obtain ⟨b1, b2⟩ := side H c2 w hn.symm hH h2 hw
      have hj : rd G c1 u < rq G c1 := hDG.2.1 u hu
      have en := new (rd G c1 u) (by omega)
      rw [← e] at b1 b2
      rw [← en] at b1 b2
      have cu := h1.1 u hu
      have cw := h2.1 w hw
      rcases Nat.lt_trichotomy (c1 u) (c2 w) with z | z | z
      · have m1 := cle_mono (c := c2) (n := gn G) (show c1 u + 1 ≤ c2 w by omega)
        rw [← old (c1 u + 1) (by omega)] at m1
        omega
      · exact z
      · have m1 := cle_mono (c := c1) (n := gn G) (show c2 w + 1 ≤ c1 u by omega)
        rw [old (c2 w + 1) (by omega)] at m1
        omega
    have eqs : ∀ u w, u < gn G → w < gn G → rd G c1 u = rd H c2 w → sS G c1 u = sS H c2 w := fun u w hu hw e => (sS_x hG hH hn h1 h2).mpr ⟨par u w hu hw e, (e2 (rd G c1 u) (hDG.2.1 u hu)).1 u w hu hw rfl e.symm⟩
    intro v hv
    have hj := hDG.2.1 v hv
    have a1 : fb_ct (fun o => sS G c1 o == sS G c1 v) (gn G) = cz (rd G c1) (gn G) (rd G c1 v) := fb_ct_cong fun o ho => by
      by_cases z : rd G c1 o = rd G c1 v
      · rw [bq_t z, bq_t ((Dn_eq hDG ho hv).mp z)]
      · rw [bq_f z, bq_f (fun w => z ((Dn_eq hDG ho hv).mpr w))]
    obtain ⟨w0, hw0, ew0⟩ := hDH.2.2 (rd G c1 v) (by omega)
    have a2 : fb_ct (fun o => sS H c2 o == sS G c1 v) (gn G) = cz (rd H c2) (gn G) (rd G c1 v) := fb_ct_cong fun o ho => by
      by_cases z : rd H c2 o = rd G c1 v
      · rw [bq_t z, bq_t (eqs v o hv ho z.symm).symm]
      · rw [bq_f z, bq_f (fun w => z (by
          have := eqs v w0 hv hw0 ew0.symm
          have := (Dn_eq hDH ho hw0).mpr (by omega)
          omega))]
    rw [a1, a2]; exact (e2 _ hj).2
/-- the first rows are alike just where the colours are -/
theorem alike0_iff {G H : Gr} (hG : gWF G) (hH : gWF H) (hn : gn G = gn H) : clk G H ↔ (q0 G = q0 H ∧ ∀ j, j < q0 G → (∀ u w, u < gn G → w < gn G → c0 G u = j → c0 H w = j → gc G u = gc H w) ∧ cz (c0 G) (gn G) j = cz (c0 H) (gn G) j) := by
  have wG := c0_cwf hG.1
  have wH := c0_cwf hH.1
  rw [← hn] at wH
  -- a cell has one colour, and all of it
  have cell : ∀ (K : Gr), gWF K → ∀ u v, u < gn K → v < gn K → (c0 K u = c0 K v ↔ gc K u = gc K v) := fun K hK u v hu hv => by
    unfold c0
    constructor
    · intro h; exact fb_ct_kth_one (oc_iff.mpr ⟨u, hu, rfl⟩) (oc_iff.mpr ⟨v, hv, rfl⟩) h
    · intro h; rw [h]
  constructor
  · intro h
    have eoc : ∀ k, k < 10 → oc G k = oc H k := fun k hk => by unfold oc; rw [h k hk, hn]
    have ect : ∀ k, k ≤ 10 → fb_ct (oc G) k = fb_ct (oc H) k := fun k hk => fb_ct_cong fun i hi => eoc i (by omega)
    have ecv : ∀ u w, gc G u = gc H w → c0 G u = c0 H w := fun u w e => by unfold c0; rw [ect _ (by have := hG.1.1 u; omega), e]
    refine ⟨ect 10 (Nat.le_refl _), fun j hj => ⟨fun u w hu hw eu ew => ?_, ?_⟩⟩
    · -- a vertex of the other one with the colour of u
      have h1 : 0 < fb_ct (fun v => gc G v == gc G u) (gn G) := fb_ct_pos.mpr ⟨u, hu, bq_t rfl⟩
      rw [h _ (hG.1.1 u)] at h1
      obtain ⟨x, hx, ex⟩ := fb_ct_pos.mp h1
      have ex : gc H x = gc G u := by simpa using ex
      have := ecv u x ex.symm
      have := (cell H hH x w (by omega) (by omega)).mp (by omega)
      omega
    · obtain ⟨u, hu, eu⟩ := wG.2 j hj
      have a1 : cz (c0 G) (gn G) j = fb_ct (fun v => gc G v == gc G u) (gn G) := fb_ct_cong fun o ho => by
        by_cases z : c0 G o = j
        · rw [bq_t z, bq_t ((cell G hG o u ho hu).mp (by omega))]
        · rw [bq_f z, bq_f (fun w => z (by have := (cell G hG o u ho hu).mpr w; omega))]
      have h1 : 0 < fb_ct (fun v => gc G v == gc G u) (gn G) := fb_ct_pos.mpr ⟨u, hu, bq_t rfl⟩
      rw [h _ (hG.1.1 u)] at h1
      obtain ⟨x, hx, ex⟩ := fb_ct_pos.mp h1
      have ex : gc H x = gc G u := by simpa using ex
      have exj := ecv u x ex.symm
      have a2 : cz (c0 H) (gn G) j = fb_ct (fun v => gc H v == gc G u) (gn G) := fb_ct_cong fun o ho => by
        by_cases z : c0 H o = j
        · have := (cell H hH o x (by omega) (by omega)).mp (by omega)
          rw [bq_t z, bq_t (show gc H o = gc G u by omega)]
        · rw [bq_f z, bq_f (fun w => z (by have := (cell H hH o x (by omega) (by omega)).mpr (by omega); omega))]
      rw [a1, a2]; exact h _ (hG.1.1 u)
  · rintro ⟨e1, e2⟩ k hk
    have one : ∀ (K L : Gr), gWF K → gWF L → gn K = gn G → gn L = gn G → q0 K = q0 L → (∀ j, j < q0 K → (∀ u w, u < gn G → w < gn G → c0 K u = j → c0 L w = j → gc K u = gc L w) ∧ cz (c0 K) (gn G) j = cz (c0 L) (gn G) j) → ∀ u, u < gn G → gc K u = k → fb_ct (fun v => gc K v == k) (gn G) = fb_ct (fun v => gc L v == k) (gn G) := by
      intro K L hK hL nK nL eq e u hu eu
      have wK := c0_cwf hK.1
      have wL := c0_cwf hL.1
      rw [nK] at wK
      rw [nL] at wL
      have hj := wK.1 u hu
      obtain ⟨w, hw, ew⟩ := wL.2 (c0 K u) (by omega)
      have ecol := (e _ hj).1 u w hu hw rfl ew
      have a1 : fb_ct (fun v => gc K v == k) (gn G) = cz (c0 K) (gn G) (c0 K u) := fb_ct_cong fun o ho => by
        by_cases z : c0 K o = c0 K u
        · have := (cell K hK o u (by omega) (by omega)).mp z
          rw [bq_t z, bq_t (show gc K o = k by omega)]
        · rw [bq_f z, bq_f (fun w => z ((cell K hK o u (by omega) (by omega)).mpr (by omega)))]
      have a2 : fb_ct (fun v => gc L v == k) (gn G) = cz (c0 L) (gn G) (c0 K u) := fb_ct_cong fun o ho => by
        by_cases z : c0 L o = c0 K u
        · have := (cell L hL o w (by omega) (by omega)).mp (by omega)
          rw [bq_t z, bq_t (show gc L o = k by omega)]
        · rw [bq_f z, bq_f (fun x => z (by have := (cell L hL o w (by omega) (by omega)).mpr (by omega); omega))]
      rw [a1, a2]; exact (e _ hj).2
    by_cases z : ∃ u, u < gn G ∧ gc G u = k
    · obtain ⟨u, hu, eu⟩ := z
      exact one G H hG hH rfl hn.symm e1 e2 u hu eu
    · by_cases z2 : ∃ u, u < gn G ∧ gc H u = k
      · obtain ⟨u, hu, eu⟩ := z2
        exact (one H G hH hG hn.symm rfl e1.symm (fun j hj => ⟨fun a b ha hb ea eb => ((e2 j (by omega)).1 b a hb ha eb ea).symm, ((e2 j (by omega)).2).symm⟩) u hu eu).symm
      · rw [ct_0 (fun i hi => bq_f fun w => z ⟨i, hi, w⟩), ct_0 (fun i hi => bq_f fun w => z2 ⟨i, hi, w⟩)]
