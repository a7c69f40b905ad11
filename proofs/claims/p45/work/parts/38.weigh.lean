/-! the class Pairing: fewest changes, orbits -/
section ZPw
variable {g : zG} {gr : Bool}
theorem k_weigh {G H : Gr} (hG : gWF G) (hH : gWF H) (hGH : gn G = gn H) : ∀ (k e v ub : Nat) (s : Nat → Nat) (cost b : Nat) (m : zm) (Q : Option Value → zH → Prop), v + k = gn G → k + 1 ≤ e → pG m 160 G → pG m 175 H → (∀ u, u < v → m.1 190 u = nI (s u) ∧ s u < 7) → ub < 128 → (∀ w, w < 7 → ub.testBit w = usd s v w) → cost ≤ 7 * v → b ≤ 1000 → m.1 157 7 = nI b →
    (∀ m', m'.1 157 7 = nI (wg G H k v s cost b) → fP v m m' → Q none (mk m')) → Ok g gr e mX3_weigh 0 0 [.ref 157, .int (nI v), .int (nI ub), .int (nI cost)] (mk m) Q := by
  have h7 := hG.2.1.2
  intro k
  induction k with
  | zero =>
    intro e v ub s cost b m Q hv he hg hh hs hub hub2 hc hb hp K
    obtain ⟨d, rfl⟩ := dn he
    have hv : v = gn G := hv
    subst hv
    refine b_X3_weigh_0 (pk_lt cost b (fun z => pk_lt (gn G) (gn G) (fun z => absurd z (Nat.lt_irrefl _)) (fun _ => K _ ?_ ?_) rfl hg.1) (fun z => K m ?_ (fP_refl _ _)) rfl hp)
    · rw [rI_s]
      show _ = nI (if b ≤ cost then b else cost)
      rw [if_neg (by omega)]
    · exact ⟨fun a x1 x2 x3 x4 => ⟨funext fun j => rI_n (fun q => x1 q.1), rfl⟩, fun u hu => rI_n (by omega), rI_n (by omega)⟩
    · show _ = nI (if b ≤ cost then b else cost)
      rw [if_pos z]; exact hp
  | succ k ih =>
    intro e v ub s cost b m Q hv he hg hh hs hub hub2 hc hb hp K
    obtain ⟨d, rfl⟩ := dn (show 1 ≤ e by omega)
    have ew : wg G H (k + 1) v s cost b = if b ≤ cost then b else it (fun w b => if usd s v w = true then b else wg G H k (v + 1) (ups s v w) (cost + cst G H s v w) b) (gn G) b := rfl
    refine b_X3_weigh_0 (pk_lt cost b (fun z => pk_lt v (gn G) (fun _ => ?_) (fun z => by omega) rfl hg.1) (fun z => K m ?_ (fP_refl _ _)) rfl hp)
    · let B := fun w b => if usd s v w = true then b else wg G H k (v + 1) (ups s v w) (cost + cst G H s v w) b
      have hB : ∀ w, it B w b ≤ 1000 := fun w => by
        refine it_inv (f := B) (n := w) (s := b) (fun _ b => b ≤ 1000) hb (fun x b _ hb2 => ?_)
        show (if _ then _ else _) ≤ 1000
        split
        · exact hb2
        · exact Nat.le_trans (wg_le hb2) hb2
      refine up_to (n := gn G) (P := fun w => ∀ m', m'.1 157 7 = nI (it B w b) → fP v m m' → WP g gr (d + 1) mX3_weigh 0 0 29 [.ref 157, .int (nI v), .int (nI ub), .int (nI cost), .int (nI w)] [] (mk m') Q) ?_ ?_ 0 (Nat.zero_le _) m hp (fP_refl _ _)
      · intro m' a1 a2
        refine b_X3_weigh_29 (pk_le (gn G) (gn G) (fun _ => K m' ?_ a2) (fun z => absurd z (Nat.lt_irrefl _)) (by rw [hGH]; exact (pG_fP hh a2 (by omega)).1))
        rw [ew, if_neg (by omega)]
        exact a1
      · intro w hw ihw m' a1 a2
        have hg' := pG_fP hg a2 (by omega)
        have hh' := pG_fP hh a2 (by omega)
        have hs' : ∀ u, u < v → m'.1 190 u = nI (s u) ∧ s u < 7 := fun u hu => ⟨by rw [a2.2.1 u hu]; exact (hs u hu).1, (hs u hu).2⟩
        refine b_X3_weigh_29 (pk_le (gn G) w (fun z => by omega) (fun _ => ?_) (by rw [hGH]; exact hh'.1))
        rw [i_in (by omega) (by omega), hub2 w (by omega), nI_1]
        refine ⟨fun hu => ?_, fun hu => ?_⟩
        · have : it B (w + 1) b = it B w b := by show (if _ then _ else _) = _; rw [if_pos hu]
          rw [this] at ihw
          exact ihw m' a1 a2
        · have eB : it B (w + 1) b = wg G H k (v + 1) (ups s v w) (cost + cst G H s v w) (it B w b) := by show (if _ then _ else _) = _; rw [if_neg hu]
          rw [eB] at ihw
          refine ⟨pk_in v 7 (by omega), ?_⟩
          rw [nI_clamp (show v < 2 ^ 31 by omega), nI_1, i_sh1 (by omega), fa_or]
          intro m2 e2
          have f2 : fP v m' m2 := by rw [e2]; exact ⟨fun a x1 x2 x3 x4 => ⟨funext fun j => rI_n (fun q => x4 q.1), rfl⟩, fun u hu => rI_n (by omega), rI_n (by omega)⟩
          have hs2 : ∀ u, u < v → m2.1 190 u = nI (s u) ∧ s u < 7 := fun u hu => ⟨by rw [f2.2.1 u hu]; exact (hs' u hu).1, (hs' u hu).2⟩
          have hcl := cst_lt (G := G) (H := H) (s := s) (w := w) (show v < 7 by omega)
          refine k_unlike hG.1 hH.1 (pG_fP hg' f2 (by omega)) (pG_fP hh' f2 (by omega)) (by omega) (by omega) hs2 ?_
          refine b_X3_weigh_76 ?_
          rw [nI_add]
          refine ih d (v + 1) (ub ||| 2 ^ w) (ups s v w) (cost + cst G H s v w) (it B w b) m2 _ (by omega) (by omega) (pG_fP hg' f2 (by omega)) (pG_fP hh' f2 (by omega)) (fun u hu => ?_) (or_128 hub (p2_7 (by omega))) (fun x hx => ?_) (by omega) (hB w) (by rw [e2, rI_n (by omega)]; exact a1) (fun m3 c1 c2 => ?_)
          · unfold ups
            by_cases z : u = v
            · subst z; rw [if_pos rfl, e2, rI_s]; exact ⟨rfl, by omega⟩
            · rw [if_neg z]; exact hs2 u (by omega)
          · rw [Nat.testBit_or, Nat.testBit_two_pow, hub2 x hx]
            rw [Bool.eq_iff_iff, Bool.or_eq_true, usd_iff, usd_iff, decide_eq_true_iff]
            unfold ups
            constructor
            · rintro (⟨u, u1, u2⟩ | z)
              · exact ⟨u, by omega, by rw [if_neg (by omega)]; exact u2⟩
              · exact ⟨v, by omega, by rw [if_pos rfl]; exact z⟩
            · rintro ⟨u, u1, u2⟩
              by_cases z : u = v
              · rw [if_pos z] at u2; exact Or.inr u2
              · rw [if_neg z] at u2; exact Or.inl ⟨u, by omega, u2⟩
          · refine b_X3_weigh_80 ?_
            rw [nI_1]
            exact ihw m3 c1 (fP_trans a2 (fP_trans f2 (fP_mono c2 (by omega))))
    · rw [ew, if_pos z]; exact hp
theorem k_leastChanges {e : Nat} {m : zm} {Q : Option Value → zH → Prop} {x y : Nat} {G H : Gr} (hx : sX1 x) (hy : sX1 y) (he : 10 ≤ e) (hG : gWF G) (hH : gWF H) (hGH : gn G = gn H) (hg : pG m x G) (hh : pG m y H) (dx : x + 15 ≤ 157 ∨ 191 ≤ x) (dy : y + 15 ≤ 157 ∨ 191 ≤ y) (K : ∀ m', fz 157 191 m m' → Q (some (.int (nI (chg G H)))) (mk m')) : Ok g gr e mX3_leastChanges 0 0 [.ref 157, .ref x, .ref y] (mk m) Q := by
  obtain ⟨d, rfl⟩ := dn he
  have h7 := hG.2.1.2
  refine b_X3_leastChanges_0 hx hy (k_take a_160 hx (by omega) (by omega) hg (fun m1 a1 a2 => ?_))
  have f1 : fz 157 191 m m1 := fz_mono a2
  refine b_X3_leastChanges_8 hy (k_take a_175 hy (by omega) (by omega) (pG_fz hh f1 (by omega)) (fun m2 b1 b2 => ?_))
  have f2 : fz 157 191 m m2 := fz_trans f1 (fz_mono b2)
  refine b_X3_leastChanges_16 ?_
  intro m3 e3
  have f3 : fz 157 158 m2 m3 := fz_eI e3
  refine k_weigh hG hH hGH (gn G) (d + 9) 0 0 (fun _ => 0) 0 29 m3 _ (Nat.zero_add _) (by omega) (pG_fz (pG_fz a1 b2 (by omega)) f3 (by omega)) (pG_fz b1 f3 (by omega)) (fun u hu => absurd hu (Nat.not_lt_zero _)) (by decide) (fun w _ => by rw [Nat.zero_testBit]; rfl) (by omega) (by decide) (by rw [e3, rI_s]; rfl) (fun m4 d1 d2 => ?_)
  refine b_X3_leastChanges_29 ?_
  rw [d1, wg_chg h7 (by decide) (by decide)]
  exact K m4 (fz_trans f2 (fz_trans (fz_mono f3) (fun a ha => d2.1 a (by omega) (by omega) (by omega) (by omega))))
theorem k_orbits {e : Nat} {m : zm} {Q : Option Value → zH → Prop} {n : Nat} {L : List (Nat → Nat)} (hn : n ≤ 7) (h0 : m.1 160 0 = nI n) (hp : pPR m n L) (hb : ∀ p ∈ L, ∀ v, v < n → p v < 7) (K : Q (some (.int (nI (orbs n L)))) (mk m)) : Ok g gr e mX3_orbits 0 0 [.ref 157] (mk m) Q := by
  refine b_X3_orbits_0 (d := e) (up_to (n := n) (P := fun v => WP g gr e mX3_orbits 0 0 4 [.ref 157, .int (nI (fb_ct (fun v => rch L v % 2 ^ v == 0) v)), .int (nI v)] [] (mk m) Q) ?_ (fun v hv ih => ?_) 0 (Nat.zero_le _))
  · exact b_X3_orbits_4 (d := e) (pk_le n n (fun _ => K) (fun z => absurd z (Nat.lt_irrefl _)) h0)
  · refine b_X3_orbits_4 (d := e) (pk_le n v (fun z => by omega) (fun _ => ⟨pk_in v 7 (by omega), ?_⟩) h0)
    have hr := rch_lt (L := L) (v := v) (fun p hp2 => hb p hp2 v hv)
    have hpv : 1 ≤ 2 ^ v := Nat.two_pow_pos v
    have hmd : rch L v % 2 ^ v ≤ rch L v := Nat.mod_le _ _
    rw [nI_clamp (show v < 2 ^ 31 by omega), hp.2.1 v hv, i_sh1 (by omega), show (1 : Int32) = nI 1 from rfl, pk_sub hpv, fa_mask, show (0 : Int32) = nI 0 from rfl, nI_eq (by omega) (by decide), nI_add, nI_add]
    have es : fb_ct (fun v => rch L v % 2 ^ v == 0) (v + 1) = fb_ct (fun v => rch L v % 2 ^ v == 0) v + (if (rch L v % 2 ^ v == 0) = true then 1 else 0) := fb_ct_succ _ _
    refine ⟨fun z => ?_, fun z => ?_⟩
    · rw [es, bq_f z] at ih; exact ih
    · rw [es, bq_t z] at ih; exact ih
theorem k_unmoved {e : Nat} {m : zm} {Q : Option Value → zH → Prop} {n : Nat} {L : List (Nat → Nat)} (hn : n ≤ 7) (h0 : m.1 160 0 = nI n) (hp : pPR m n L) (hb : ∀ p ∈ L, ∀ v, v < n → p v < 7) (K : Q (some (.int (nI (stls n L)))) (mk m)) : Ok g gr e mX3_unmoved 0 0 [.ref 157] (mk m) Q := by
  refine b_X3_unmoved_0 (d := e) (up_to (n := n) (P := fun v => WP g gr e mX3_unmoved 0 0 4 [.ref 157, .int (nI (fb_ct (fun v => rch L v == 2 ^ v) v)), .int (nI v)] [] (mk m) Q) ?_ (fun v hv ih => ?_) 0 (Nat.zero_le _))
  · exact b_X3_unmoved_4 (d := e) (pk_le n n (fun _ => K) (fun z => absurd z (Nat.lt_irrefl _)) h0)
  · refine b_X3_unmoved_4 (d := e) (pk_le n v (fun z => by omega) (fun _ => ⟨pk_in v 7 (by omega), ?_⟩) h0)
    have hr := rch_lt (L := L) (v := v) (fun p hp2 => hb p hp2 v hv)
    have hpv := p2_7 (show v < 7 by omega)
    rw [nI_clamp (show v < 2 ^ 31 by omega), hp.2.1 v hv, i_sh1 (by omega), show (1 : Int32) = nI 1 from rfl, nI_eq (by omega) (by omega), nI_add, nI_add]
    have es : fb_ct (fun v => rch L v == 2 ^ v) (v + 1) = fb_ct (fun v => rch L v == 2 ^ v) v + (if (rch L v == 2 ^ v) = true then 1 else 0) := fb_ct_succ _ _
    refine ⟨fun z => ?_, fun z => ?_⟩
    · rw [es, bq_f z] at ih; exact ih
    · rw [es, bq_t z] at ih; exact ih
end ZPw
