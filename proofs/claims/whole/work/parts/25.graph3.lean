/-! the class Graph's methods, three: turned, empty, a vertex more, one less -/
def tri (a b x y : Nat) : Prop := (x < a ∧ y < a) ∨ (x = a ∧ y < b) ∨ (y = a ∧ x < b)
noncomputable def tF (G : Gr) (f : Nat → Nat) (a b x y : Nat) : Nat := @ite Nat (x ≠ y ∧ tri a b x y) (Classical.propDecidable _) (f (gk G x y)) (gk G x y)
theorem tF_y {G : Gr} {f : Nat → Nat} {a b x y : Nat} (h : x ≠ y ∧ tri a b x y) : tF G f a b x y = f (gk G x y) := if_pos h
theorem tF_n {G : Gr} {f : Nat → Nat} {a b x y : Nat} (h : ¬ (x ≠ y ∧ tri a b x y)) : tF G f a b x y = gk G x y := if_neg h
theorem tF_0 {G : Gr} {f : Nat → Nat} (x y : Nat) : tF G f 0 0 x y = gk G x y := tF_n fun h => by have := h.2; unfold tri at this; omega
theorem tF_row {G : Gr} {f : Nat → Nat} (a x y : Nat) : tF G f a a x y = tF G f (a + 1) 0 x y := by
  by_cases h : x ≠ y ∧ tri a a x y
  · rw [tF_y h, tF_y ⟨h.1, by have := h.2; have := h.1; unfold tri at *; omega⟩]
  · rw [tF_n h, tF_n (fun z => h ⟨z.1, by have := z.2; have := z.1; unfold tri at *; omega⟩)]
theorem tF_step {G : Gr} (hG : gOK G) {f : Nat → Nat} {a b : Nat} (hb : b < a) (x y : Nat) : tF G f a (b + 1) x y = if pr2 a b x y = true then f (gk G a b) else tF G f a b x y := by
  by_cases p : pr2 a b x y = true
  · rw [if_pos p]
    rcases pr2_iff.mp p with ⟨rfl, rfl⟩ | ⟨rfl, rfl⟩
    · exact tF_y ⟨by omega, by unfold tri; omega⟩
    · rw [tF_y ⟨by omega, by unfold tri; omega⟩, hG.2.2.1]
  · rw [if_neg p]
    have q := mt pr2_iff.mpr p
    by_cases h : x ≠ y ∧ tri a b x y
    · rw [tF_y h, tF_y ⟨h.1, by have := h.2; unfold tri at *; omega⟩]
    · rw [tF_n h, tF_n (fun z => h ⟨z.1, by have := z.2; unfold tri at *; omega⟩)]
def lo_ (v i x : Nat) : Nat := if x < v then x else if x < i then x + 1 else if x = i then v else x
theorem lo_v (v x : Nat) : lo_ v v x = x := by
  unfold lo_
  by_cases h1 : x < v
  · rw [if_pos h1]
  · rw [if_neg h1, if_neg h1]
    by_cases h2 : x = v
    · rw [if_pos h2]; exact h2.symm
    · rw [if_neg h2]
section ZGr
variable {g : zG} {gr : Bool} {e : Nat} {m : zm} {Q : Option Value → zH → Prop}
theorem k_turnKinds {o : Nat} {G : Gr} (ho : sX1 o) (he : 1 ≤ e) (hG : gWF G) (hp : pG m o G) (H : ∀ m', pG m' o (gT G) → fz o (o + 15) m m' → Q none (mk m')) : Ok g gr e mX1_turnKinds 0 0 [.ref o] (mk m) Q := by
  obtain ⟨d, rfl⟩ := dn he
  have hn := hG.2.1.2
  refine b_X1_turnKinds_0 ho (up_to (n := gn G) (P := fun a => ∀ m', pG m' o (gn G, gc G, tF G (fun x => x ^^^ 1) a 0) → fz o (o + 15) m m' → WP g gr (d + 1) mX1_turnKinds 0 0 2 [.ref o, .int (nI a), .retAddr 0] [] (mk m') Q) ?_ ?_ 0 (Nat.zero_le _) m (pG_cong hp rfl (fun _ _ => rfl) (fun x y _ _ => (tF_0 (G := G) (f := fun x => x ^^^ 1) x y).symm)) (fz_refl _ _ _))
  · intro m' h1 h2
    refine b_X1_turnKinds_2 ho (pk_le (gn G) (gn G) (fun _ => H m' (pG_cong h1 rfl (fun _ _ => rfl) (fun x y _ _ => ?_)) h2) (fun z => absurd z (Nat.lt_irrefl _)) h1.1)
    show tF G (fun x => x ^^^ 1) (gn G) 0 x y = if x < gn G ∧ y < gn G ∧ x ≠ y then gk G x y ^^^ 1 else gk G x y
    by_cases h : x < gn G ∧ y < gn G ∧ x ≠ y
    · rw [if_pos h, tF_y ⟨h.2.2, by unfold tri; omega⟩]
    · rw [if_neg h, tF_n (fun z => h (by have := z.2; have := z.1; unfold tri at *; omega))]
  · intro a ha ih m' h1 h2
    refine b_X1_turnKinds_2 ho (pk_le (gn G) a (fun z => by omega) (fun _ => ?_) h1.1)
    refine up_to (n := a) (P := fun b => ∀ m', pG m' o (gn G, gc G, tF G (fun x => x ^^^ 1) a b) → fz o (o + 15) m m' → WP g gr (d + 1) mX1_turnKinds 0 0 12 [.ref o, .int (nI a), .int (nI b)] [] (mk m') Q) ?_ ?_ 0 (Nat.zero_le _) m' h1 h2
    · intro m2 p2 f2
      refine b_X1_turnKinds_12 ho (pk_le a a (fun _ => ?_) (fun z => absurd z (Nat.lt_irrefl _)))
      rw [nI_1]
      exact ih m2 (pG_cong p2 rfl (fun _ _ => rfl) (fun x y _ _ => tF_row (G := G) (f := fun x => x ^^^ 1) a x y)) f2
    · intro b hb ih2 m2 p2 f2
      refine b_X1_turnKinds_12 ho (pk_le a b (fun z => by omega) (fun _ => ⟨pk_in a 7 (by omega), pk_in b 7 (by omega), ?_⟩))
      rw [nI_clamp (show a < 2 ^ 31 by omega), nI_clamp (show b < 2 ^ 31 by omega), p2.2.2.1 a b (by omega) (by omega)]
      have g1 : gk (gn G, gc G, tF G (fun x => x ^^^ 1) a b) a b = gk G a b := tF_n (G := G) (f := fun x => x ^^^ 1) (a := a) (b := b) (x := a) (y := b) fun z => by have := z.2; unfold tri at this; omega
      rw [g1, show (1 : Int32) = nI 1 from rfl, fb_xorI]
      refine k_join ho p2 (by omega) (by omega) (by omega) (x3 _ (hG.1.2.1 a b)) (fun m3 p3 f3 => ?_)
      refine b_X1_turnKinds_33 ho ?_
      rw [show (1 : Int32) = nI 1 from rfl, nI_add]
      exact ih2 m3 (pG_cong p3 rfl (fun _ _ => rfl) (fun x y _ _ => (tF_step (f := fun x => x ^^^ 1) hG.1 hb x y).symm)) (fz_trans f2 f3)
theorem k_empty {o n : Nat} {G : Gr} (ho : sX1 o) (he : 1 ≤ e) (hG : gOK G) (hp : pG m o G) (H : ∀ m', pG m' o (gE n) → fz o (o + 15) m m' → Q none (mk m')) : Ok g gr e mX1_empty 0 0 [.ref o, .int (nI n)] (mk m) Q := by
  obtain ⟨d, rfl⟩ := dn he
  refine b_X1_empty_0 ho (up_to (n := 7) (P := fun a => ∀ m', pG m' o (gn G, (fun v => if v < a then 0 else gc G v), tF G (fun _ => 0) a 0) → fz o (o + 15) m m' → WP g gr (d + 1) mX1_empty 0 0 2 [.ref o, .int (nI n), .int (nI a), .retAddr 0] [] (mk m') Q) ?_ ?_ 0 (Nat.zero_le _) m (pG_cong hp rfl (fun _ _ => rfl) (fun x y _ _ => (tF_0 (G := G) (f := fun _ => 0) x y).symm)) (fz_refl _ _ _))
  · intro m' h1 h2
    refine b_X1_empty_2 ho (pk_le 7 7 (fun _ => H _ ⟨?_, fun v hv => ?_, fun x y hx hy => ?_, fun k x hk hx => ?_⟩ (fz_trans h2 fz_wI)) (fun z => absurd z (Nat.lt_irrefl _)))
    · exact rI_s
    · rw [rI_n (by omega), h1.2.1 v hv]
      show nI (if v < 7 then 0 else gc G v) = nI 0
      rw [if_pos hv]
    · rw [rI_n (by omega), h1.2.2.1 x y hx hy]
      show nI (tF G (fun _ => 0) 7 0 x y) = nI 0
      by_cases z : x = y
      · rw [tF_n (fun w => w.1 z), z, hG.2.2.2]
      · rw [tF_y ⟨z, by unfold tri; omega⟩]
    · rw [rI_n (by omega), h1.2.2.2 k x hk hx]
      congr 1
      refine bm_cong fun y hy => ?_
      show lk k (tF G (fun _ => 0) 7 0 x y) = lk k 0
      congr 1
      by_cases z : x = y
      · rw [tF_n (fun w => w.1 z), z, hG.2.2.2]
      · rw [tF_y ⟨z, by unfold tri; omega⟩]
  · intro a ha ih m' h1 h2
    refine b_X1_empty_2 ho (pk_le 7 a (fun z => by omega) (fun _ => ⟨pk_in a 7 ha, ?_⟩))
    rw [nI_clamp (show a < 2 ^ 31 by omega)]
    refine up_to (n := a) (P := fun b => ∀ m', pG m' o (gn G, (fun v => if v < a + 1 then 0 else gc G v), tF G (fun _ => 0) a b) → fz o (o + 15) m m' → WP g gr (d + 1) mX1_empty 0 0 17 [.ref o, .int (nI n), .int (nI a), .int (nI b)] [] (mk m') Q) ?_ ?_ 0 (Nat.zero_le _) _ ⟨?_, fun v hv => ?_, fun x y hx hy => ?_, fun k x hk hx => ?_⟩ (fz_trans h2 fz_wI)
    · intro m2 p2 f2
      refine b_X1_empty_17 ho (pk_le a a (fun _ => ?_) (fun z => absurd z (Nat.lt_irrefl _)))
      rw [nI_1]
      exact ih m2 (pG_cong p2 rfl (fun _ _ => rfl) (fun x y _ _ => tF_row (G := G) (f := fun _ => 0) a x y)) f2
    · intro b hb ih2 m2 p2 f2
      refine b_X1_empty_17 ho (pk_le a b (fun z => by omega) (fun _ => ?_))
      refine k_join (k := 0) ho p2 (by omega) (by omega) (by omega) (by decide) (fun m3 p3 f3 => ?_)
      refine b_X1_empty_29 ho ?_
      rw [nI_1]
      exact ih2 m3 (pG_cong p3 rfl (fun _ _ => rfl) (fun x y _ _ => (tF_step (f := fun _ => 0) hG hb x y).symm)) (fz_trans f2 f3)
    · rw [rI_n (by omega)]; exact h1.1
    · show _ = nI (if v < a + 1 then 0 else gc G v)
      by_cases z : v = a
      · subst z; rw [rI_s, if_pos (Nat.lt_succ_self _)]; rfl
      · rw [rI_n (fun w => z w.2), h1.2.1 v hv]
        show nI (if v < a then 0 else gc G v) = _
        by_cases z2 : v < a
        · rw [if_pos z2, if_pos (by omega)]
        · rw [if_neg z2, if_neg (by omega)]
    · rw [rI_n (by omega)]; exact h1.2.2.1 x y hx hy
    · rw [rI_n (by omega)]; exact h1.2.2.2 k x hk hx
theorem k_gain {o set col : Nat} {G : Gr} (ho : sX1 o) (he : 1 ≤ e) (hG : gWF G) (hp : pG m o G) (hn : gn G < 7) (hs : set < 2 ^ 31) (H : ∀ m', pG m' o (gA G set col) → fz o (o + 15) m m' → Q none (mk m')) : Ok g gr e mX1_gain 0 0 [.ref o, .int (nI set), .int (nI col)] (mk m) Q := by
  obtain ⟨d, rfl⟩ := dn he
  have z1 : ∀ x y, gn G ≤ y → gk G x y = 0 := fun x y h => by rw [hG.1.2.2.1]; exact hG.2.2.2 y x h
  have z2 : ∀ x y, gn G ≤ x → gk G x y = 0 := hG.2.2.2
  refine b_X1_gain_0 ho ?_
  intro m1 e1
  rw [hp.1]
  refine ⟨pk_in (gn G) 7 hn, ?_⟩
  rw [nI_clamp (show gn G < 2 ^ 31 by omega)]
  refine up_to (n := gn G) (P := fun i => ∀ m', pG m' o (gn G + 1, (fun v => if v = gn G then col else gc G v), fun x y => if x = gn G ∧ y < i then (if set.testBit y = true then 1 else 0) else if y = gn G ∧ x < i then (if set.testBit x = true then 1 else 0) else gk G x y) → fz o (o + 15) m m' → WP g gr (d + 1) mX1_gain 0 0 25 [.ref o, .int (nI set), .retAddr 0, .int (nI (gn G)), .int (nI i)] [] (mk m') Q) ?_ ?_ 0 (Nat.zero_le _) _ ⟨?_, fun v hv => ?_, fun x y hx hy => ?_, fun k x hk hx => ?_⟩ (fz_trans (fz_eI e1) fz_wI)
  · intro m2 p2 f2
    exact b_X1_gain_25 ho (pk_le (gn G) (gn G) (fun _ => H m2 p2 f2) (fun z => absurd z (Nat.lt_irrefl _)))
  · intro i hi ih m2 p2 f2
    have nxt : ∀ b m3, b = (if set.testBit i = true then 1 else 0) → pG m3 o (gJ (gn G + 1, (fun v => if v = gn G then col else gc G v), fun x y => if x = gn G ∧ y < i then (if set.testBit y = true then 1 else 0) else if y = gn G ∧ x < i then (if set.testBit x = true then 1 else 0) else gk G x y) i (gn G) b) → fz o (o + 15) m2 m3 → WP g gr (d + 1) mX1_gain 0 0 52 [.ref o, .int (nI set), .retAddr 0, .int (nI (gn G)), .int (nI i)] [] (mk m3) Q := fun b m3 hb p3 f3 => by
      refine b_X1_gain_52 ho ?_
      rw [nI_1]
      refine ih m3 (pG_cong p3 rfl (fun _ _ => rfl) (fun x y _ _ => ?_)) (fz_trans f2 f3)
      show (if pr2 i (gn G) x y = true then b else if x = gn G ∧ y < i then (if set.testBit y = true then 1 else 0) else if y = gn G ∧ x < i then (if set.testBit x = true then 1 else 0) else gk G x y) = (if x = gn G ∧ y < i + 1 then (if set.testBit y = true then 1 else 0) else if y = gn G ∧ x < i + 1 then (if set.testBit x = true then 1 else 0) else gk G x y)
      by_cases p : pr2 i (gn G) x y = true
      · rw [if_pos p]
        rcases pr2_iff.mp p with ⟨rfl, rfl⟩ | ⟨rfl, rfl⟩
        · rw [if_neg (by omega), if_pos ⟨rfl, Nat.lt_succ_self _⟩]; exact hb
        · rw [if_pos ⟨rfl, Nat.lt_succ_self _⟩]; exact hb
      · rw [if_neg p]
        have q := mt pr2_iff.mpr p
        have c1 : (x = gn G ∧ y < i + 1) ↔ (x = gn G ∧ y < i) := by omega
        have c2 : (y = gn G ∧ x < i + 1) ↔ (y = gn G ∧ x < i) := by omega
        simp only [c1, c2]
    refine b_X1_gain_25 ho (pk_le (gn G) i (fun z => by omega) (fun _ => ⟨fun ht => ?_, fun ht => ?_⟩))
    · rw [i_in hs (by omega)] at ht
      exact k_join (k := 1) ho p2 (by omega) (by omega) (by omega) (by decide) (fun m3 p3 f3 => nxt 1 m3 (by rw [if_pos ht]) p3 f3)
    · rw [i_in hs (by omega)] at ht
      exact k_join (k := 0) ho p2 (by omega) (by omega) (by omega) (by decide) (fun m3 p3 f3 => nxt 0 m3 (by rw [if_neg ht]) p3 f3)
  · rw [rI_n (by omega), e1, rI_s, hp.1, nI_1]
  · show _ = nI (if v = gn G then col else gc G v)
    by_cases z : v = gn G
    · rw [z, rI_s, if_pos rfl]
    · rw [rI_n (fun w => z w.2), e1, rI_n (by omega), if_neg z]; exact hp.2.1 v hv
  · rw [rI_n (by omega), e1, rI_n (by omega)]
    show _ = nI (if x = gn G ∧ y < 0 then _ else if y = gn G ∧ x < 0 then _ else gk G x y)
    rw [if_neg (by omega), if_neg (by omega)]; exact hp.2.2.1 x y hx hy
  · rw [rI_n (by omega), e1, rI_n (by omega), hp.2.2.2 k x hk hx]
    congr 1
    refine bm_cong fun y _ => ?_
    show lk k (gk G x y) = lk k (if x = gn G ∧ y < 0 then _ else if y = gn G ∧ x < 0 then _ else gk G x y)
    rw [if_neg (by omega), if_neg (by omega)]
theorem k_lose {o v : Nat} {G : Gr} (ho : sX1 o) (he : 2 ≤ e) (hG : gWF G) (hp : pG m o G) (hn : 1 < gn G) (hv : v < gn G) (H : ∀ m', pG m' o (gD G v) → fz o (o + 15) m m' → Q none (mk m')) : Ok g gr e mX1_lose 0 0 [.ref o, .int (nI v)] (mk m) Q := by
  obtain ⟨d, rfl⟩ := dn he
  have h7 := hG.2.1.2
  refine b_X1_lose_0 ho ?_
  rw [hp.1, show (1 : Int32) = nI 1 from rfl, pk_sub (by omega)]
  refine up_to (n := gn G - 1) (P := fun i => v ≤ i → ∀ m' G', gWF G' → pG m' o G' → gn G' = gn G → (∀ x, gc G' x = gc G (lo_ v i x)) → (∀ x y, gk G' x y = gk G (lo_ v i x) (lo_ v i y)) → fz o (o + 15) m m' → WP g gr (d + 2) mX1_lose 0 0 9 [.ref o, .retAddr 0, .int (nI (gn G - 1)), .int (nI i)] [] (mk m') Q) ?_ ?_ v (by omega) (Nat.le_refl _) m G hG hp rfl (fun x => ?_) (fun x y => ?_) (fz_refl _ _ _)
  · intro _ m' G' hG' p' hn' hc' hk' f'
    refine b_X1_lose_9 ho (pk_le (gn G - 1) (gn G - 1) (fun _ => ?_) (fun z => absurd z (Nat.lt_irrefl _)))
    refine up_to (n := gn G - 1) (P := fun i => ∀ m', pG m' o (gn G, gc G', fun x y => if (x = gn G - 1 ∧ y < i) ∨ (y = gn G - 1 ∧ x < i) then 0 else gk G' x y) → fz o (o + 15) m m' → WP g gr (d + 2) mX1_lose 0 0 30 [.ref o, .retAddr 0, .int (nI (gn G - 1)), .int (nI i)] [] (mk m') Q) ?_ ?_ 0 (Nat.zero_le _) m' (pG_cong p' hn' (fun _ _ => rfl) (fun x y _ _ => by show _ = if _ then 0 else gk G' x y; rw [if_neg (by omega)])) f'
    · intro m2 p2 f2
      refine b_X1_lose_30 ho (pk_le (gn G - 1) (gn G - 1) (fun _ => ⟨pk_in (gn G - 1) 7 (by omega), ?_⟩) (fun z => absurd z (Nat.lt_irrefl _)))
      rw [nI_clamp (show gn G - 1 < 2 ^ 31 by omega)]
      intro m3 e3
      have kk : ∀ x y, x < 7 → y < 7 → (if (x = gn G - 1 ∧ y < gn G - 1) ∨ (y = gn G - 1 ∧ x < gn G - 1) then 0 else gk G' x y) = (if x < gn G - 1 ∧ y < gn G - 1 then gk G (skp v x) (skp v y) else 0) := fun x y hx hy => by
        by_cases c1 : x < gn G - 1 ∧ y < gn G - 1
        · rw [if_neg (by omega), if_pos c1, hk']
          have q : ∀ x, x < gn G - 1 → lo_ v (gn G - 1) x = skp v x := fun x hx => by
            unfold lo_ skp
            by_cases z : x < v
            · rw [if_pos z, if_pos z]
            · rw [if_neg z, if_neg z, if_pos hx]
          rw [q x c1.1, q y c1.2]
        · rw [if_neg c1]
          by_cases c2 : (x = gn G - 1 ∧ y < gn G - 1) ∨ (y = gn G - 1 ∧ x < gn G - 1)
          · rw [if_pos c2]
          · rw [if_neg c2]
            by_cases c3 : gn G ≤ x
            · exact hG'.2.2.2 x y (by omega)
            · by_cases c4 : gn G ≤ y
              · rw [hG'.1.2.2.1]; exact hG'.2.2.2 y x (by omega)
              · have : x = y := by omega
                rw [this]; exact hG'.1.2.2.2 y
      refine H _ ⟨?_, fun x hx => ?_, fun x y hx hy => ?_, fun k x hk hx => ?_⟩ (fz_trans f2 (fz_trans (fz_eI e3) fz_wI))
      · exact rI_s
      · rw [rI_n (by omega), e3]
        show _ = nI (if x < gn G - 1 then gc G (skp v x) else 0)
        by_cases z : x = gn G - 1
        · rw [z, rI_s, if_neg (Nat.lt_irrefl _)]; rfl
        · rw [rI_n (fun w => z w.2), p2.2.1 x hx]
          show nI (gc G' x) = _
          rw [hc']
          by_cases z2 : x < gn G - 1
          · rw [if_pos z2]
            unfold lo_ skp
            by_cases z3 : x < v
            · rw [if_pos z3, if_pos z3]
            · rw [if_neg z3, if_neg z3, if_pos z2]
          · rw [if_neg z2]
            have : lo_ v (gn G - 1) x = x := by unfold lo_; rw [if_neg (by omega), if_neg (by omega), if_neg z]
            rw [this, hG.2.2.1 x (by omega)]
      · rw [rI_n (by omega), e3, rI_n (by omega), p2.2.2.1 x y hx hy]
        exact congrArg nI (kk x y hx hy)
      · rw [rI_n (by omega), e3, rI_n (by omega), p2.2.2.2 k x hk hx]
        congr 1
        refine bm_cong fun y hy => ?_
        exact congrArg (lk k) (kk x y hx hy)
    · intro i hi ih m2 p2 f2
      refine b_X1_lose_30 ho (pk_le (gn G - 1) i (fun z => by omega) (fun _ => ?_))
      refine k_join (k := 0) ho p2 (by omega) (by omega) (by omega) (by decide) (fun m3 p3 f3 => ?_)
      refine b_X1_lose_42 ho ?_
      rw [nI_1]
      refine ih m3 (pG_cong p3 rfl (fun _ _ => rfl) (fun x y _ _ => ?_)) (fz_trans f2 f3)
      show (if pr2 i (gn G - 1) x y = true then 0 else if (x = gn G - 1 ∧ y < i) ∨ (y = gn G - 1 ∧ x < i) then 0 else gk G' x y) = (if (x = gn G - 1 ∧ y < i + 1) ∨ (y = gn G - 1 ∧ x < i + 1) then 0 else gk G' x y)
      by_cases p : pr2 i (gn G - 1) x y = true
      · rw [if_pos p, if_pos (by have := pr2_iff.mp p; omega)]
      · rw [if_neg p]
        have q := mt pr2_iff.mpr p
        have c1 : ((x = gn G - 1 ∧ y < i + 1) ∨ (y = gn G - 1 ∧ x < i + 1)) ↔ ((x = gn G - 1 ∧ y < i) ∨ (y = gn G - 1 ∧ x < i)) := by omega
        simp only [c1]
  · intro i hi ih hvi m' G' hG' p' hn' hc' hk' f'
    refine b_X1_lose_9 ho (pk_le (gn G - 1) i (fun z => by omega) (fun _ => ?_))
    rw [nI_1]
    have lt : ∀ x, lo_ v i (tr i (i + 1) x) = lo_ v (i + 1) x := fun x => by
      by_cases z1 : x = i
      · subst z1; rw [tr_a]; unfold lo_; rw [if_neg (by omega), if_neg (by omega), if_neg (by omega), if_neg (by omega), if_pos (by omega)]
      · by_cases z2 : x = i + 1
        · subst z2; rw [tr_b]; unfold lo_; rw [if_neg (by omega), if_neg (by omega), if_pos rfl, if_neg (by omega), if_neg (by omega), if_pos rfl]
        · rw [tr_o z1 z2]; unfold lo_
          by_cases z3 : x < v
          · rw [if_pos z3, if_pos z3]
          · rw [if_neg z3, if_neg z3]
            by_cases z4 : x < i
            · rw [if_pos z4, if_pos (by omega)]
            · rw [if_neg z4, if_neg z1, if_neg (by omega), if_neg z2]
    refine k_exchange ho (by omega) hG' p' (by omega) (by omega) (by omega) (fun m2 p2 f2 => ?_)
    refine b_X1_lose_22 ho ?_
    rw [nI_1]
    exact ih (by omega) m2 _ (gX_WF hG' (by omega) (by omega)) p2 hn' (fun x => by show gc G' (tr i (i + 1) x) = _; rw [hc', lt]) (fun x y => by show gk G' (tr i (i + 1) x) (tr i (i + 1) y) = _; rw [hk', lt, lt]) (fz_trans f' f2)
  · rw [lo_v]
  · rw [lo_v, lo_v]
end ZGr
