/-! START rests; no round tells like graphs apart; no change is wanted -/
theorem rd_same {G : Gr} {c : Nat → Nat} {q : Nat} (hn : gn G ≤ 7) (hc : cwf (gn G) c q) (h : rq G c = q) : ∀ v, v < gn G → rd G c v = c v := by
  have hD := rd_Dn G c
  rw [h] at hD
  have key : ∀ j, ∃ v, j < q → (v < gn G ∧ rd G c v = j) := fun j => by
    by_cases hj : j < q
    · obtain ⟨v, hv⟩ := hD.2.2 j hj; exact ⟨v, fun _ => hv⟩
    · exact ⟨0, fun z => absurd z hj⟩
  obtain ⟨g, hg⟩ := Classical.axiomOfChoice key
  have onto : ∀ i, ∃ j, i < q → (j < q ∧ c (g j) = i) := fun i => by
    by_cases hi : i < q
    · obtain ⟨v, hv, e⟩ := hc.2 i hi
      have hj := hD.2.1 v hv
      exact ⟨rd G c v, fun _ => ⟨hj, (rd_c hn hc (hg _ hj).1 hv (hg _ hj).2).trans e⟩⟩
    · exact ⟨0, fun z => absurd z hi⟩
  obtain ⟨f, hf⟩ := Classical.axiomOfChoice onto
  have pf : pe q f := ⟨fun i hi => (hf i hi).1, fun i j hi hj e => by rw [← (hf i hi).2, ← (hf j hj).2, e]⟩
  have inj : ∀ j j', j < q → j' < q → c (g j) = c (g j') → j = j' := fun j j' hj hj' e => by
    obtain ⟨i, hi, e1⟩ := pe_onto pf hj
    obtain ⟨i', hi', e2⟩ := pe_onto pf hj'
    rw [← e1, ← e2, (hf i hi).2, (hf i' hi').2] at e
    rw [← e1, ← e2, e]
  have same : ∀ u v, u < gn G → v < gn G → c u = c v → rd G c u = rd G c v := fun u v hu hv e => by
    have hj := hD.2.1 u hu
    have hj' := hD.2.1 v hv
    have a := rd_c hn hc (hg _ hj).1 hu (hg _ hj).2
    have b := rd_c hn hc (hg _ hj').1 hv (hg _ hj').2
    exact inj _ _ hj hj' (by omega)
  have d1 : Dn (gn G) c c q := ⟨fun _ _ _ _ => Iff.rfl, hc.1, hc.2⟩
  have d2 : Dn (gn G) c (rd G c) q := ⟨fun u v hu hv => by
    constructor
    · intro z
      rcases Nat.lt_trichotomy (c u) (c v) with y | y | y
      · exact y
      · have := same u v hu hv y; omega
      · have := rd_lt hn hc hv hu y; omega
    · exact rd_lt hn hc hu hv, hD.2.1, hD.2.2⟩
  exact Dn_one d2 d1
theorem rq_cong {G : Gr} {c c' : Nat → Nat} (h : ∀ v, v < gn G → c v = c' v) : rq G c = rq G c' := by
  have e : iso G G (fun i => i) := iso_id G
  exact (rd_iso e (c1 := c') (c2 := c) h).1
theorem rf_rest {G : Gr} (hn : gn G ≤ 7) : ∀ (k : Nat) (c : Nat → Nat) (q : Nat), cwf (gn G) c q → gn G ≤ q + k → rq G (rf G k c q).1 = (rf G k c q).2.1 := by
  have full : ∀ (c : Nat → Nat) (q : Nat), cwf (gn G) c q → gn G ≤ q → rq G c = q := fun c q hc h => by
    have h1 := cwf_le hc
    have h2 := Dn_le_n (rd_Dn G c)
    have h3 := rq_ge hn hc
    omega
  intro k
  induction k with
  | zero => intro c q hc h; exact full c q hc (by omega)
  | succ k ih =>
    intro c q hc h
    by_cases h1 : q < gn G
    · by_cases h2 : q < rq G c
      · rw [rf_1 h1 h2]
        exact ih (rd G c) (rq G c) (rd_cwf G c) (by omega)
      · rw [rf_2 h1 h2]
        have e : rq G c = q := by have := rq_ge hn hc; omega
        show rq G (rd G c) = rq G c
        exact rq_cong (rd_same hn hc e)
    · rw [rf_0 (Nat.le_of_not_lt h1)]
      exact full c q hc (Nat.le_of_not_lt h1)
theorem st_rest {G : Gr} (hG : gWF G) : rq G (st G).1 = (st G).2.1 := rf_rest hG.2.1.2 7 _ _ (c0_cwf hG.1) (by have := hG.2.1.2; omega)
/-- of one cell of START: all see all cells alike -/
theorem st_see {G : Gr} (hG : gWF G) {u v e k : Nat} (hu : u < gn G) (hv : v < gn G) (h : (st G).1 u = (st G).1 v) (he : e < 7) (h1 : 1 ≤ k) (h3 : k ≤ 3) : fb_ct (fun w => (st G).1 w == e && gk G u w == k) (gn G) = fb_ct (fun w => (st G).1 w == e && gk G v w == k) (gn G) := by
  have hn := hG.2.1.2
  have hw := st_cwf hG
  have hq := cwf_le hw
  have es : sS G (st G).1 u = sS G (st G).1 v := by
    refine (Dn_eq (rd_Dn G (st G).1) hu hv).mp ?_
    rw [rd_same hn hw (st_rest hG) u hu, rd_same hn hw (st_rest hG) v hv, h]
  have ed := nm_inj (fun i _ => dg_lt hn (by have := hw.1 u hu; omega) i) (fun i _ => dg_lt hn (by have := hw.1 v hv; omega) i) es (3 * e + k) (by omega)
  have hz : 3 * e + k ≠ 0 := by omega
  unfold dg at ed
  rw [if_neg hz, if_neg hz] at ed
  have sh : ∀ x, fb_ct (fun w => (st G).1 w == e && gk G x w == k) (gn G) = fb_ct (fun w => decide (0 < gk G x w) && (3 * (st G).1 w + gk G x w == 3 * e + k)) (gn G) := fun x => fb_ct_cong fun w _ => by
    have := hG.1.2.1 x w
    rw [Bool.eq_iff_iff, Bool.and_eq_true, Bool.and_eq_true, beq_iff_eq, beq_iff_eq, decide_eq_true_iff, beq_iff_eq]
    constructor
    · rintro ⟨a, b⟩; omega
    · rintro ⟨a, b⟩; omega
  rw [sh u, sh v]
  exact ed
theorem c0_mono {G : Gr} {u v : Nat} (hu : u < gn G) (h : gc G u < gc G v) : c0 G u < c0 G v := by
  have h1 := fb_ct_mono (oc G) (show gc G u + 1 ≤ gc G v from h)
  rw [fb_ct_succ, if_pos (oc_iff.mpr ⟨u, hu, rfl⟩)] at h1
  exact h1
theorem st_mono {G : Gr} (hG : gWF G) {u v : Nat} (hu : u < gn G) (hv : v < gn G) (h : gc G u < gc G v) : (st G).1 u < (st G).1 v := (rf_all hG.2.1.2 7 _ _ (c0_cwf hG.1)).2.2.2 u v hu hv (c0_mono hu h)
theorem st_col {G : Gr} (hG : gWF G) {u v : Nat} (hu : u < gn G) (hv : v < gn G) (h : (st G).1 u ≤ (st G).1 v) : gc G u ≤ gc G v := by
  apply Classical.byContradiction
  intro z
  have := st_mono hG hv hu (by omega)
  omega
/-- refined once more it is as it was -/
theorem st_again {G : Gr} (hG : gWF G) : (rfn G (st G).1 (st G).2.1).2.1 = (st G).2.1 := by
  have h := st_rest hG
  unfold rfn
  by_cases h1 : (st G).2.1 < gn G
  · rw [rf_2 h1 (by omega)]; exact h
  · rw [rf_0 (Nat.le_of_not_lt h1)]
/-- ORBITS lie within cells of START -/
theorem st_orb {G : Gr} {f : Nat → Nat} (h : au G f) {v : Nat} (hv : v < gn G) : (st G).1 (f v) = (st G).1 v := (st_ev h v hv).symm
theorem tld_iso {G H : Gr} {π : Nat → Nat} (ha : iso G H π) : ∀ (k : Nat) (c1 c2 : Nat → Nat) (q r : Nat), ev (gn G) π c2 c1 → tld G H k c1 c2 q r = -2 := by
  intro k
  induction k with
  | zero => intro c1 c2 q r _; rfl
  | succ k ih =>
    intro c1 c2 q r he
    have hs : slk G H c1 c2 := fun v hv => by
      rw [← ct_pe ha.2.1 (fun o => sS H c2 o == sS G c1 v)]
      exact fb_ct_cong fun o ho => by rw [sS_iso ha he ho]
    show @ite _ (slk G H c1 c2) (Classical.propDecidable _) _ _ = _
    rw [if_pos hs]
    split
    · exact ih _ _ _ _ (rd_iso ha he).2
    · rfl
theorem told_iso {G H : Gr} {π : Nat → Nat} (ha : iso G H π) : told G H = -2 := by
  unfold told
  rw [if_pos (show clk G H from fun k _ => (cc_iso ha k).trans (by rw [ha.1]))]
  exact tld_iso ha 7 _ _ _ _ (c0_iso ha)
theorem mc_iso {G H : Gr} {f : Nat → Nat} (hf : iso G H f) : ∀ (k v : Nat) (s : Nat → Nat) (cost : Nat), v + k = gn G → (∀ u, u < v → s u = f u) → mc G H k v s cost ≤ cost := by
  intro k
  induction k with
  | zero => intro v s cost _ _; exact Nat.le_refl _
  | succ k ih =>
    intro v s cost hv h
    have hlt : v < gn G := by omega
    have hu : usd s v (f v) = false := by
      cases z : usd s v (f v) with
      | false => rfl
      | true =>
        obtain ⟨u, h1, h2⟩ := usd_iff.mp z
        rw [h u h1] at h2
        have := hf.2.1.2 u v (by omega) hlt h2
        omega
    have hc : cst G H s v (f v) = 0 := by
      unfold cst
      rw [if_pos (hf.2.2.1 v hlt).symm]
      have : dff G H s v (f v) = 0 := ct_0 fun u hu => by rw [h u hu, hf.2.2.2 u v (by omega) hlt]; simp
      omega
    have h1 := ih (v + 1) (ups s v (f v)) (cost + cst G H s v (f v)) (by omega) (fun u hu => by
      unfold ups
      by_cases z : u = v
      · rw [if_pos z, z]
      · rw [if_neg z]; exact h u (by omega))
    have key : ∀ w, f v < w → it (fun w b => if usd s v w = true then b else min b (mc G H k (v + 1) (ups s v w) (cost + cst G H s v w))) w 1000 ≤ mc G H k (v + 1) (ups s v (f v)) (cost + cst G H s v (f v)) := by
      intro w
      induction w with
      | zero => intro h; omega
      | succ w ih2 =>
        intro h
        rw [it_succ]
        by_cases z : w = f v
        · rw [z, if_neg (by rw [hu]; decide)]
          omega
        · have := ih2 (by omega)
          split <;> omega
    have h2 := key (gn G) (hf.2.1.1 v hlt)
    show it _ (gn G) 1000 ≤ _
    omega
theorem chg_iso {G H : Gr} {f : Nat → Nat} (hf : iso G H f) : chg G H = 0 := by
  have := mc_iso hf (gn G) 0 (fun _ => 0) 0 (Nat.zero_add _) (fun u hu => absurd hu (Nat.not_lt_zero u))
  unfold chg
  omega
