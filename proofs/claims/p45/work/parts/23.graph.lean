/-! the class Graph's methods -/
section ZGr
variable {g : zG} {gr : Bool} {e : Nat} {m : zm} {Q : Option Value → zH → Prop}
theorem k_links {o : Nat} {G : Gr} (ho : sX1 o) (he : 1 ≤ e) (hn : gn G ≤ 7) (hp : pG m o G) (H : Q (some (.int (nI (fb_sm (dgr G) (gn G) / 2)))) (mk m)) : Ok g gr e mX1_links 0 0 [.ref o] (mk m) Q := by
  obtain ⟨d, rfl⟩ := dn he
  have hs : ∀ i, i ≤ 7 → fb_sm (dgr G) i ≤ 7 * i := fun i => by
    induction i with
    | zero => intro _; exact Nat.le_refl _
    | succ i ih => intro h; rw [fb_sm_succ]; have h1 := ih (by omega); have h2 : dgr G i ≤ 7 := fb_ct_le _ 7; omega
  refine b_X1_links_0 ho (up_to (n := gn G) (P := fun i => WP g gr (d + 1) mX1_links 0 0 4 [.ref o, .int (nI (fb_sm (dgr G) i)), .int (nI i)] [] (mk m) Q) ?_ (fun i hi ih => ?_) 0 (Nat.zero_le _))
  · refine b_X1_links_4 ho (pk_le (gn G) (gn G) (fun _ => ?_) (fun z => absurd z (Nat.lt_irrefl _)) hp.1)
    have := hs (gn G) hn
    rw [show (2 : Int32) = nI 2 from rfl, pk_div (by omega) (by decide) (by decide)]
    exact H
  · refine b_X1_links_4 ho (pk_le (gn G) i (fun z => by omega) (fun _ => ⟨pk_in i 7 (by omega), ?_⟩) hp.1)
    rw [nI_clamp (show i < 2 ^ 31 by omega), hp.2.2.2 0 i (by decide) (by omega), i_bm (Nat.le_refl 7), nI_add, nI_1]
    exact ih
theorem k_mostLinks {o : Nat} {G : Gr} (ho : sX1 o) (he : 1 ≤ e) (hn : gn G ≤ 7) (hp : pG m o G) (H : Q (some (.int (nI (mxl G (gn G))))) (mk m)) : Ok g gr e mX1_mostLinks 0 0 [.ref o] (mk m) Q := by
  obtain ⟨d, rfl⟩ := dn he
  have hd : ∀ i, dgr G i ≤ 7 := fun i => fb_ct_le _ 7
  have hs : ∀ i, mxl G i ≤ 7 := fun i => by
    induction i with
    | zero => exact Nat.zero_le _
    | succ i ih => show (if _ then _ else _) ≤ 7; split
                   · exact hd i
                   · exact ih
  refine b_X1_mostLinks_0 ho (up_to (n := gn G) (P := fun i => WP g gr (d + 1) mX1_mostLinks 0 0 4 [.ref o, .int (nI (mxl G i)), .int (nI i)] [] (mk m) Q) ?_ (fun i hi ih => ?_) 0 (Nat.zero_le _))
  · exact b_X1_mostLinks_4 ho (pk_le (gn G) (gn G) (fun _ => H) (fun z => absurd z (Nat.lt_irrefl _)) hp.1)
  · refine b_X1_mostLinks_4 ho (pk_le (gn G) i (fun z => by omega) (fun _ => ⟨pk_in i 7 (by omega), ?_⟩) hp.1)
    have a1 := hs i
    have a2 := hd i
    rw [nI_clamp (show i < 2 ^ 31 by omega), hp.2.2.2 0 i (by decide) (by omega), i_bm (Nat.le_refl 7), show fb_ct (fun b => lk 0 (gk G i b)) 7 = dgr G i from rfl, i_max _ _ (by omega) (by omega), nI_1]
    exact ih
theorem k_take {o x : Nat} {G : Gr} (ho : sX1 o) (hx : sX1 x) (he : 2 ≤ e) (hd : o + 15 ≤ x ∨ x + 15 ≤ o) (hp : pG m x G) (H : ∀ m', pG m' o G → fz o (o + 15) m m' → Q none (mk m')) : Ok g gr e mX1_take 0 0 [.ref o, .ref x] (mk m) Q := by
  obtain ⟨d, rfl⟩ := dn he
  refine b_X1_take_0 ho hx ?_
  intro m1 e1
  have f1 : fz o (o + 15) m m1 := by rw [e1]; exact fz_wI
  refine up_to (n := 7) (P := fun i => ∀ m', fz o (o + 15) m m' → m'.1 o 0 = nI (gn G) → (∀ v, v < 7 → m'.1 (o + 1) v = nI (gc G v)) → (∀ a b, a < i → b < 7 → m'.1 (o + 3 + a) b = nI (gk G a b)) → WP g gr (d + 2) mX1_take 0 0 25 [.ref o, .ref x, .int (nI i)] [] (mk m') Q) ?_ ?_ 0 (Nat.zero_le _) _ (fz_trans f1 fz_wC) ?_ ?_ (fun a b h => absurd h (Nat.not_lt_zero _))
  · intro m2 f2 h0 h1 h2
    refine b_X1_take_25 ho hx (pk_le 7 7 (fun _ => ?_) (fun z => absurd z (Nat.lt_irrefl _)))
    refine up_to (n := 4) (P := fun i => ∀ m', fz o (o + 15) m m' → m'.1 o 0 = nI (gn G) → (∀ v, v < 7 → m'.1 (o + 1) v = nI (gc G v)) → (∀ a b, a < 7 → b < 7 → m'.1 (o + 3 + a) b = nI (gk G a b)) → (∀ k a, k < i → a < 7 → m'.1 (o + 11 + k) a = nI (bm (fun b => lk k (gk G a b)) 7)) → WP g gr (d + 2) mX1_take 0 0 58 [.ref o, .ref x, .int (nI i)] [] (mk m') Q) ?_ ?_ 0 (Nat.zero_le _) _ f2 h0 h1 h2 (fun a b h => absurd h (Nat.not_lt_zero _))
    · intro m3 f3 h0 h1 h2 h3
      exact b_X1_take_58 ho hx (pk_le 4 4 (fun _ => H m3 ⟨h0, h1, h2, fun k a hk ha => h3 k a hk ha⟩ f3) (fun z => absurd z (Nat.lt_irrefl _)))
    · intro i hi ih m3 f3 h0 h1 h2 h3
      refine b_X1_take_58 ho hx (pk_le 4 i (fun z => by omega) (fun _ => ⟨pk_in i 4 hi, ?_⟩))
      rw [nI_clamp (show i < 2 ^ 31 by omega), nI_1]
      refine ih _ (fz_trans f3 fz_wC) (by rw [wC_1, if_neg (by omega)]; exact h0) (fun v hv => by rw [wC_1, if_neg (by omega)]; exact h1 v hv) (fun a b ha hb => by rw [wC_1, if_neg (by omega)]; exact h2 a b ha hb) (fun k a hk ha => ?_)
      rw [wC_1]
      by_cases z : k = i
      · subst z
        rw [if_pos ⟨rfl, ha⟩, fz_1 f3 (by omega)]
        exact hp.2.2.2 k a hi ha
      · rw [if_neg (by omega)]; exact h3 k a (by omega) ha
  · intro i hi ih m2 f2 h0 h1 h2
    refine b_X1_take_25 ho hx (pk_le 7 i (fun z => by omega) (fun _ => ⟨pk_in i 7 hi, ?_⟩))
    rw [nI_clamp (show i < 2 ^ 31 by omega), nI_1]
    refine ih _ (fz_trans f2 fz_wC) (by rw [wC_1, if_neg (by omega)]; exact h0) (fun v hv => by rw [wC_1, if_neg (by omega)]; exact h1 v hv) (fun a b ha hb => ?_)
    rw [wC_1]
    by_cases z : a = i
    · subst z
      rw [if_pos ⟨rfl, hb⟩, fz_1 f2 (by omega)]
      exact hp.2.2.1 a b hi hb
    · rw [if_neg (by omega)]; exact h2 a b (by omega) hb
  · rw [wC_1, if_neg (by omega), e1, rI_s]; exact hp.1
  · intro v hv
    rw [wC_1, if_pos ⟨rfl, hv⟩, e1, rI_n (by omega)]
    exact hp.2.1 v hv
theorem k_same {o x : Nat} {G G' : Gr} (ho : sX1 o) (hx : sX1 x) (hG : gWF G) (hG' : gWF G') (hp : pG m o G) (hq : pG m x G') (H1 : G = G' → Q (some (.int 1)) (mk m)) (H0 : G ≠ G' → Q (some (.int 0)) (mk m)) : Ok g gr e mX1_same 0 0 [.ref o, .ref x] (mk m) Q := by
  have hn := hG.2.1.2
  have hn' := hG'.2.1.2
  refine b_X1_same_0 (d := e) ho hx (pk_eq (gn G) (gn G') (fun en => ?_) (fun z => H0 (fun h => z (by rw [h]))) hp.1 hq.1)
  refine up_to (n := gn G) (P := fun i => (∀ v, v < i → gc G v = gc G' v) → (∀ a b, a < i → b < a → gk G a b = gk G' a b) → WP g gr e mX1_same 0 0 15 [.ref o, .ref x, .int (nI i), .retAddr 0] [] (mk m) Q) ?_ ?_ 0 (Nat.zero_le _) (fun v h => absurd h (Nat.not_lt_zero _)) (fun a b h => absurd h (Nat.not_lt_zero _))
  · intro h1 h2
    exact b_X1_same_15 (d := e) ho hx (pk_le (gn G) (gn G) (fun _ => H1 (gr_ext hG hG' en h1 h2)) (fun z => absurd z (Nat.lt_irrefl _)) hp.1)
  · intro i hi ih h1 h2
    refine b_X1_same_15 (d := e) ho hx (pk_le (gn G) i (fun z => by omega) (fun _ => ⟨pk_in i 7 (by omega), ?_⟩) hp.1)
    rw [nI_clamp (show i < 2 ^ 31 by omega), hp.2.1 i (by omega), hq.2.1 i (by omega)]
    have b1 := hG.1.1 i
    have b2 := hG'.1.1 i
    refine pk_eq (gc G i) (gc G' i) (fun ec => ?_) (fun z => H0 (fun h => z (by rw [h])))
    refine up_to (n := i) (P := fun j => (∀ b, b < j → gk G i b = gk G' i b) → WP g gr e mX1_same 0 0 42 [.ref o, .ref x, .int (nI i), .int (nI j)] [] (mk m) Q) ?_ ?_ 0 (Nat.zero_le _) (fun v h => absurd h (Nat.not_lt_zero _))
    · intro h3
      refine b_X1_same_42 (d := e) ho hx (pk_le i i (fun _ => ?_) (fun z => absurd z (Nat.lt_irrefl _)))
      rw [nI_1]
      refine ih (fun v hv => ?_) (fun a b ha hb => ?_)
      · by_cases z : v = i
        · subst z; exact ec
        · exact h1 v (by omega)
      · by_cases z : a = i
        · subst z; exact h3 b hb
        · exact h2 a b (by omega) hb
    · intro j hj ih2 h3
      refine b_X1_same_42 (d := e) ho hx (pk_le i j (fun z => by omega) (fun _ => ⟨pk_in i 7 (by omega), pk_in j 7 (by omega), ?_⟩))
      rw [nI_clamp (show i < 2 ^ 31 by omega), nI_clamp (show j < 2 ^ 31 by omega), hp.2.2.1 i j (by omega) (by omega), hq.2.2.1 i j (by omega) (by omega), nI_1]
      have b1 := hG.1.2.1 i j
      have b2 := hG'.1.2.1 i j
      refine pk_eq (gk G i j) (gk G' i j) (fun ek => ih2 (fun b hb => ?_)) (fun z => H0 (fun h => z (by rw [h])))
      by_cases z : b = j
      · subst z; exact ek
      · exact h3 b (by omega)
end ZGr
