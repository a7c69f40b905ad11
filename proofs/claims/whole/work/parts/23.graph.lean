/-! the class Graph's methods -/
theorem up_to {n : Nat} {P : Nat → Prop} (h0 : P n) (hs : ∀ i, i < n → P (i + 1) → P i) : ∀ i, i ≤ n → P i := by
  have key : ∀ k i, i + k = n → P i := by
    intro k
    induction k with
    | zero => intro i hi; rw [show i = n by omega]; exact h0
    | succ k ih => intro i hi; exact hs i (by omega) (ih (i + 1) (by omega))
  exact fun i hi => key (n - i) i (by omega)
/-- vertices behind a change of two numbers -/
def tr (a b x : Nat) : Nat := if x = a then b else if x = b then a else x
def gX (G : Gr) (a b : Nat) : Gr := (gn G, fun v => gc G (tr a b v), fun x y => gk G (tr a b x) (tr a b y))
def gT (G : Gr) : Gr := (gn G, gc G, fun x y => if x < gn G ∧ y < gn G ∧ x ≠ y then gk G x y ^^^ 1 else gk G x y)
def gE (n : Nat) : Gr := (n, fun _ => 0, fun _ _ => 0)
def gA (G : Gr) (set col : Nat) : Gr := (gn G + 1, fun v => if v = gn G then col else gc G v, fun x y => if x = gn G ∧ y < gn G then (if set.testBit y = true then 1 else 0) else if y = gn G ∧ x < gn G then (if set.testBit x = true then 1 else 0) else gk G x y)
def skp (v x : Nat) : Nat := if x < v then x else x + 1
def gD (G : Gr) (v : Nat) : Gr := (gn G - 1, fun x => if x < gn G - 1 then gc G (skp v x) else 0, fun x y => if x < gn G - 1 ∧ y < gn G - 1 then gk G (skp v x) (skp v y) else 0)
def dgr (G : Gr) (v : Nat) : Nat := fb_ct (fun b => lk 0 (gk G v b)) 7
def mxl (G : Gr) : Nat → Nat
  | 0 => 0
  | v + 1 => if mxl G v < dgr G v then dgr G v else mxl G v
theorem tr_lt {a b n x : Nat} (ha : a < n) (hb : b < n) (hx : x < n) : tr a b x < n := by
  unfold tr
  split
  · exact hb
  · split <;> assumption
theorem tr_tr {a b x : Nat} : tr a b (tr a b x) = x := by
  unfold tr
  by_cases h1 : x = a
  · rw [if_pos h1]
    by_cases h2 : b = a
    · rw [if_pos h2]; omega
    · rw [if_neg h2, if_pos rfl]; exact h1.symm
  · rw [if_neg h1]
    by_cases h2 : x = b
    · rw [if_pos h2, if_pos rfl]; exact h2.symm
    · rw [if_neg h2, if_neg h1, if_neg h2]
theorem tr_inj {a b x y : Nat} (h : tr a b x = tr a b y) : x = y := by rw [← tr_tr (a := a) (b := b) (x := x), h, tr_tr]
theorem gX_OK {G : Gr} {a b : Nat} (hG : gOK G) : gOK (gX G a b) := ⟨fun _ => hG.1 _, fun _ _ => hG.2.1 _ _, fun _ _ => hG.2.2.1 _ _, fun _ => hG.2.2.2 _⟩
theorem gX_WF {G : Gr} {a b : Nat} (hG : gWF G) (ha : a < gn G) (hb : b < gn G) : gWF (gX G a b) := by
  have hi : ∀ v, gn G ≤ v → tr a b v = v := fun v hv => by unfold tr; rw [if_neg (by omega), if_neg (by omega)]
  exact ⟨gX_OK hG.1, hG.2.1, fun v hv => by show gc G (tr a b v) = 0; rw [hi v hv]; exact hG.2.2.1 v hv, fun x y hx => by show gk G (tr a b x) (tr a b y) = 0; rw [hi x hx]; exact hG.2.2.2 x _ hx⟩
theorem x3 : ∀ x, x < 4 → x ^^^ 1 < 4 := by decide
theorem gT_OK {G : Gr} (hG : gOK G) : gOK (gT G) := by
  refine ⟨hG.1, fun x y => ?_, fun x y => ?_, fun x => ?_⟩
  · show (if _ then _ else _) < 4
    split
    · exact x3 _ (hG.2.1 x y)
    · exact hG.2.1 x y
  · show (if x < gn G ∧ y < gn G ∧ x ≠ y then gk G x y ^^^ 1 else gk G x y) = (if y < gn G ∧ x < gn G ∧ y ≠ x then gk G y x ^^^ 1 else gk G y x)
    rw [hG.2.2.1 x y]
    by_cases h : x < gn G ∧ y < gn G ∧ x ≠ y
    · rw [if_pos h, if_pos ⟨h.2.1, h.1, Ne.symm h.2.2⟩]
    · rw [if_neg h, if_neg (fun z => h ⟨z.2.1, z.1, Ne.symm z.2.2⟩)]
  · show (if x < gn G ∧ x < gn G ∧ x ≠ x then _ else gk G x x) = 0
    rw [if_neg (fun z => z.2.2 rfl)]; exact hG.2.2.2 x
theorem gT_WF {G : Gr} (hG : gWF G) : gWF (gT G) := ⟨gT_OK hG.1, hG.2.1, hG.2.2.1, fun x y hx => by
  show (if x < gn G ∧ _ then _ else gk G x y) = 0
  have hx : gn G ≤ x := hx
  rw [if_neg (fun z => by have := z.1; omega)]; exact hG.2.2.2 x y hx⟩
theorem gJ_WF {G : Gr} {a b k : Nat} (hG : gWF G) (hk : k < 4) (hab : a ≠ b) (ha : a < gn G) (hb : b < gn G) : gWF (gJ G a b k) := ⟨gJ_OK hG.1 hk hab, hG.2.1, hG.2.2.1, fun x y hx => by
  show (if _ then _ else gk G x y) = 0
  rw [if_neg (fun z => by have := pr2_iff.mp z; have hx : gn G ≤ x := hx; omega)]; exact hG.2.2.2 x y hx⟩
theorem gE_OK (n : Nat) : gOK (gE n) := ⟨fun _ => (by show (0 : Nat) < 10; decide), fun _ _ => (by show (0 : Nat) < 4; decide), fun _ _ => rfl, fun _ => rfl⟩
theorem gE_WF {n : Nat} (h : 1 ≤ n ∧ n ≤ 7) : gWF (gE n) := ⟨gE_OK n, h, fun _ _ => rfl, fun _ _ _ => rfl⟩
theorem gD_WF {G : Gr} {v : Nat} (hG : gWF G) (hn : 1 < gn G) : gWF (gD G v) := by
  refine ⟨⟨fun x => ?_, fun x y => ?_, fun x y => ?_, fun x => ?_⟩, ⟨by show 1 ≤ gn G - 1; omega, by have := hG.2.1.2; show gn G - 1 ≤ 7; omega⟩, fun x hx => ?_, fun x y hx => ?_⟩
  · show (if _ then _ else _) < 10
    split
    · exact hG.1.1 _
    · decide
  · show (if _ then _ else _) < 4
    split
    · exact hG.1.2.1 _ _
    · decide
  · show (if x < gn G - 1 ∧ y < gn G - 1 then gk G (skp v x) (skp v y) else 0) = (if y < gn G - 1 ∧ x < gn G - 1 then gk G (skp v y) (skp v x) else 0)
    rw [hG.1.2.2.1 (skp v x)]
    by_cases h : x < gn G - 1 ∧ y < gn G - 1
    · rw [if_pos h, if_pos ⟨h.2, h.1⟩]
    · rw [if_neg h, if_neg (fun z => h ⟨z.2, z.1⟩)]
  · show (if _ then gk G (skp v x) (skp v x) else 0) = 0
    split
    · exact hG.1.2.2.2 _
    · rfl
  · have hx : gn G - 1 ≤ x := hx
    show (if _ then _ else _) = 0
    rw [if_neg (by omega)]
  · have hx : gn G - 1 ≤ x := hx
    show (if _ then _ else _) = 0
    rw [if_neg (by omega)]
theorem gA_WF {G : Gr} {set col : Nat} (hG : gWF G) (hn : gn G < 7) (hc : col < 10) : gWF (gA G set col) := by
  refine ⟨⟨fun x => ?_, fun x y => ?_, fun x y => ?_, fun x => ?_⟩, ⟨by show 1 ≤ gn G + 1; omega, by show gn G + 1 ≤ 7; omega⟩, fun x hx => ?_, fun x y hx => ?_⟩
  · show (if _ then _ else _) < 10
    split
    · exact hc
    · exact hG.1.1 _
  · show (if _ then (if _ then _ else _) else if _ then (if _ then _ else _) else _) < 4
    split
    · split <;> decide
    · split
      · split <;> decide
      · exact hG.1.2.1 _ _
  · show (if x = gn G ∧ y < gn G then (if set.testBit y = true then 1 else 0) else if y = gn G ∧ x < gn G then (if set.testBit x = true then 1 else 0) else gk G x y) = (if y = gn G ∧ x < gn G then (if set.testBit x = true then 1 else 0) else if x = gn G ∧ y < gn G then (if set.testBit y = true then 1 else 0) else gk G y x)
    by_cases h : x = gn G ∧ y < gn G
    · rw [if_pos h, if_neg (show ¬ (y = gn G ∧ x < gn G) by omega), if_pos h]
    · rw [if_neg h, if_neg h, hG.1.2.2.1 x y]
  · show (if x = gn G ∧ x < gn G then _ else if x = gn G ∧ x < gn G then _ else gk G x x) = 0
    rw [if_neg (by omega), if_neg (by omega)]; exact hG.1.2.2.2 x
  · have hx : gn G + 1 ≤ x := hx
    show (if x = gn G then _ else gc G x) = 0
    rw [if_neg (by omega)]; exact hG.2.2.1 x (by omega)
  · have hx : gn G + 1 ≤ x := hx
    show (if x = gn G ∧ _ then _ else if y = gn G ∧ x < gn G then _ else gk G x y) = 0
    rw [if_neg (by omega), if_neg (by omega)]; exact hG.2.2.2 x y (by omega)
theorem gr_ext {G G' : Gr} (hG : gWF G) (hG' : gWF G') (hn : gn G = gn G') (hc : ∀ v, v < gn G → gc G v = gc G' v) (hk : ∀ a b, a < gn G → b < a → gk G a b = gk G' a b) : G = G' := by
  have h1 : gc G = gc G' := funext fun v => by
    by_cases h : v < gn G
    · exact hc v h
    · rw [hG.2.2.1 v (by omega), hG'.2.2.1 v (by omega)]
  have h2 : gk G = gk G' := funext fun a => funext fun b => by
    by_cases ha : a < gn G
    · by_cases hb : b < gn G
      · rcases Nat.lt_trichotomy b a with z | z | z
        · exact hk a b ha z
        · subst z; rw [hG.1.2.2.2, hG'.1.2.2.2]
        · rw [hG.1.2.2.1 a b, hG'.1.2.2.1 a b]; exact hk b a hb z
      · rw [hG.1.2.2.1 a b, hG'.1.2.2.1 a b, hG.2.2.2 b a (by omega), hG'.2.2.2 b a (by omega)]
    · rw [hG.2.2.2 a b (by omega), hG'.2.2.2 a b (by omega)]
  obtain ⟨n, c, k⟩ := G
  obtain ⟨n', c', k'⟩ := G'
  have hn : n = n' := hn
  have h1 : c = c' := h1
  have h2 : k = k' := h2
  rw [hn, h1, h2]
section ZGr
variable {g : zG} {gr : Bool} {e : Nat} {m : zm} {Q : Option Value → zH → Prop}
theorem k_links {o : Nat} {G : Gr} (ho : sX1 o) (he : 1 ≤ e) (hn : gn G ≤ 7) (hp : pG m o G) (H : Q (some (.int (nI (fb_sm (dgr G) (gn G) / 2)))) (mk m)) : Ok g gr e mX1_links 0 0 [.ref o] (mk m) Q := by
  obtain ⟨d, rfl⟩ := dn he
  have hs : ∀ i, i ≤ 7 → fb_sm (dgr G) i ≤ 7 * i := fun i => by
    induction i with
    | zero => intro _; exact Nat.le_refl _
    | succ i ih => intro h; rw [fb_sm_succ]; have h1 := ih (by omega); have h2 : dgr G i ≤ 7 := fb_ct_le _ 7; omega
  refine b_X1_links_0 ho (up_to (n := gn G) (P := fun i => WP g gr (d + 1) mX1_links 0 0 4 [.ref o, .int (nI (fb_sm (dgr G) i)), .int (nI i)] [] (mk m) Q) ?_ (fun i hi ih => ?_) 0 (Nat.zero_le _))
  · refine b_X1_links_4 ho (pk_le (gn G) (gn G) (fun _ => ?_) (fun z => absurd z (Nat.lt_irrefl _)) hp.1)
    have := hs (gn G) hn
    rw [show (2 : Int32) = nI 2 from rfl, pk_div (by omega) (by decide) (by decide)]
    exact H
  · refine b_X1_links_4 ho (pk_le (gn G) i (fun z => by omega) (fun _ => ⟨pk_in i 7 (by omega), ?_⟩) hp.1)
    rw [nI_clamp (show i < 2 ^ 31 by omega), hp.2.2.2 0 i (by decide) (by omega), i_bm (Nat.le_refl 7), nI_add, nI_1]
    exact ih
theorem k_mostLinks {o : Nat} {G : Gr} (ho : sX1 o) (he : 1 ≤ e) (hn : gn G ≤ 7) (hp : pG m o G) (H : Q (some (.int (nI (mxl G (gn G))))) (mk m)) : Ok g gr e mX1_mostLinks 0 0 [.ref o] (mk m) Q := by
  obtain ⟨d, rfl⟩ := dn he
  have hd : ∀ i, dgr G i ≤ 7 := fun i => fb_ct_le _ 7
  have hs : ∀ i, mxl G i ≤ 7 := fun i => by
    induction i with
    | zero => exact Nat.zero_le _
    | succ i ih => show (if _ then _ else _) ≤ 7; split
                   · exact hd i
                   · exact ih
  refine b_X1_mostLinks_0 ho (up_to (n := gn G) (P := fun i => WP g gr (d + 1) mX1_mostLinks 0 0 4 [.ref o, .int (nI (mxl G i)), .int (nI i)] [] (mk m) Q) ?_ (fun i hi ih => ?_) 0 (Nat.zero_le _))
  · exact b_X1_mostLinks_4 ho (pk_le (gn G) (gn G) (fun _ => H) (fun z => absurd z (Nat.lt_irrefl _)) hp.1)
  · refine b_X1_mostLinks_4 ho (pk_le (gn G) i (fun z => by omega) (fun _ => ⟨pk_in i 7 (by omega), ?_⟩) hp.1)
    have a1 := hs i
    have a2 := hd i
    rw [nI_clamp (show i < 2 ^ 31 by omega), hp.2.2.2 0 i (by decide) (by omega), i_bm (Nat.le_refl 7), show fb_ct (fun b => lk 0 (gk G i b)) 7 = dgr G i from rfl, i_max _ _ (by omega) (by omega), nI_1]
    exact ih
theorem k_take {o x : Nat} {G : Gr} (ho : sX1 o) (hx : sX1 x) (he : 2 ≤ e) (hd : o + 15 ≤ x ∨ x + 15 ≤ o) (hp : pG m x G) (H : ∀ m', pG m' o G → fz o (o + 15) m m' → Q none (mk m')) : Ok g gr e mX1_take 0 0 [.ref o, .ref x] (mk m) Q := by
  obtain ⟨d, rfl⟩ := dn he
  refine b_X1_take_0 ho hx ?_
  intro m1 e1
  have f1 : fz o (o + 15) m m1 := by rw [e1]; exact fz_wI
  refine up_to (n := 7) (P := fun i => ∀ m', fz o (o + 15) m m' → m'.1 o 0 = nI (gn G) → (∀ v, v < 7 → m'.1 (o + 1) v = nI (gc G v)) → (∀ a b, a < i → b < 7 → m'.1 (o + 3 + a) b = nI (gk G a b)) → WP g gr (d + 2) mX1_take 0 0 25 [.ref o, .ref x, .int (nI i)] [] (mk m') Q) ?_ ?_ 0 (Nat.zero_le _) _ (fz_trans f1 fz_wC) ?_ ?_ (fun a b h => absurd h (Nat.not_lt_zero _))
  · intro m2 f2 h0 h1 h2
    refine b_X1_take_25 ho hx (pk_le 7 7 (fun _ => ?_) (fun z => absurd z (Nat.lt_irrefl _)))
    refine up_to (n := 4) (P := fun i => ∀ m', fz o (o + 15) m m' → m'.1 o 0 = nI (gn G) → (∀ v, v < 7 → m'.1 (o + 1) v = nI (gc G v)) → (∀ a b, a < 7 → b < 7 → m'.1 (o + 3 + a) b = nI (gk G a b)) → (∀ k a, k < i → a < 7 → m'.1 (o + 11 + k) a = nI (bm (fun b => lk k (gk G a b)) 7)) → WP g gr (d + 2) mX1_take 0 0 58 [.ref o, .ref x, .int (nI i)] [] (mk m') Q) ?_ ?_ 0 (Nat.zero_le _) _ f2 h0 h1 h2 (fun a b h => absurd h (Nat.not_lt_zero _))
    · intro m3 f3 h0 h1 h2 h3
      exact b_X1_take_58 ho hx (pk_le 4 4 (fun _ => H m3 ⟨h0, h1, h2, fun k a hk ha => h3 k a hk ha⟩ f3) (fun z => absurd z (Nat.lt_irrefl _)))
    · intro i hi ih m3 f3 h0 h1 h2 h3
      refine b_X1_take_58 ho hx (pk_le 4 i (fun z => by omega) (fun _ => ⟨pk_in i 4 hi, ?_⟩))
      rw [nI_clamp (show i < 2 ^ 31 by omega), nI_1]
      refine ih _ (fz_trans f3 fz_wC) (by rw [wC_1, if_neg (by omega)]; exact h0) (fun v hv => by rw [wC_1, if_neg (by omega)]; exact h1 v hv) (fun a b ha hb => by rw [wC_1, if_neg (by omega)]; exact h2 a b ha hb) (fun k a hk ha => ?_)
      rw [wC_1]
      by_cases z : k = i
      · subst z
        rw [if_pos ⟨rfl, ha⟩, fz_1 f3 (by omega)]
        exact hp.2.2.2 k a hi ha
      · rw [if_neg (by omega)]; exact h3 k a (by omega) ha
  · intro i hi ih m2 f2 h0 h1 h2
    refine b_X1_take_25 ho hx (pk_le 7 i (fun z => by omega) (fun _ => ⟨pk_in i 7 hi, ?_⟩))
    rw [nI_clamp (show i < 2 ^ 31 by omega), nI_1]
    refine ih _ (fz_trans f2 fz_wC) (by rw [wC_1, if_neg (by omega)]; exact h0) (fun v hv => by rw [wC_1, if_neg (by omega)]; exact h1 v hv) (fun a b ha hb => ?_)
    rw [wC_1]
    by_cases z : a = i
    · subst z
      rw [if_pos ⟨rfl, hb⟩, fz_1 f2 (by omega)]
      exact hp.2.2.1 a b hi hb
    · rw [if_neg (by omega)]; exact h2 a b (by omega) hb
  · rw [wC_1, if_neg (by omega), e1, rI_s]; exact hp.1
  · intro v hv
    rw [wC_1, if_pos ⟨rfl, hv⟩, e1, rI_n (by omega)]
    exact hp.2.1 v hv
theorem k_same {o x : Nat} {G G' : Gr} (ho : sX1 o) (hx : sX1 x) (hG : gWF G) (hG' : gWF G') (hp : pG m o G) (hq : pG m x G') (H1 : G = G' → Q (some (.int 1)) (mk m)) (H0 : G ≠ G' → Q (some (.int 0)) (mk m)) : Ok g gr e mX1_same 0 0 [.ref o, .ref x] (mk m) Q := by
  have hn := hG.2.1.2
  have hn' := hG'.2.1.2
  refine b_X1_same_0 (d := e) ho hx (pk_eq (gn G) (gn G') (fun en => ?_) (fun z => H0 (fun h => z (by rw [h]))) hp.1 hq.1)
  refine up_to (n := gn G) (P := fun i => (∀ v, v < i → gc G v = gc G' v) → (∀ a b, a < i → b < a → gk G a b = gk G' a b) → WP g gr e mX1_same 0 0 15 [.ref o, .ref x, .int (nI i), .retAddr 0] [] (mk m) Q) ?_ ?_ 0 (Nat.zero_le _) (fun v h => absurd h (Nat.not_lt_zero _)) (fun a b h => absurd h (Nat.not_lt_zero _))
  · intro h1 h2
    exact b_X1_same_15 (d := e) ho hx (pk_le (gn G) (gn G) (fun _ => H1 (gr_ext hG hG' en h1 h2)) (fun z => absurd z (Nat.lt_irrefl _)) hp.1)
  · intro i hi ih h1 h2
    refine b_X1_same_15 (d := e) ho hx (pk_le (gn G) i (fun z => by omega) (fun _ => ⟨pk_in i 7 (by omega), ?_⟩) hp.1)
    rw [nI_clamp (show i < 2 ^ 31 by omega), hp.2.1 i (by omega), hq.2.1 i (by omega)]
    have b1 := hG.1.1 i
    have b2 := hG'.1.1 i
    refine pk_eq (gc G i) (gc G' i) (fun ec => ?_) (fun z => H0 (fun h => z (by rw [h])))
    refine up_to (n := i) (P := fun j => (∀ b, b < j → gk G i b = gk G' i b) → WP g gr e mX1_same 0 0 42 [.ref o, .ref x, .int (nI i), .int (nI j)] [] (mk m) Q) ?_ ?_ 0 (Nat.zero_le _) (fun v h => absurd h (Nat.not_lt_zero _))
    · intro h3
      refine b_X1_same_42 (d := e) ho hx (pk_le i i (fun _ => ?_) (fun z => absurd z (Nat.lt_irrefl _)))
      rw [nI_1]
      refine ih (fun v hv => ?_) (fun a b ha hb => ?_)
      · by_cases z : v = i
        · subst z; exact ec
        · exact h1 v (by omega)
      · by_cases z : a = i
        · subst z; exact h3 b hb
        · exact h2 a b (by omega) hb
    · intro j hj ih2 h3
      refine b_X1_same_42 (d := e) ho hx (pk_le i j (fun z => by omega) (fun _ => ⟨pk_in i 7 (by omega), pk_in j 7 (by omega), ?_⟩))
      rw [nI_clamp (show i < 2 ^ 31 by omega), nI_clamp (show j < 2 ^ 31 by omega), hp.2.2.1 i j (by omega) (by omega), hq.2.2.1 i j (by omega) (by omega), nI_1]
      have b1 := hG.1.2.1 i j
      have b2 := hG'.1.2.1 i j
      refine pk_eq (gk G i j) (gk G' i j) (fun ek => ih2 (fun b hb => ?_)) (fun z => H0 (fun h => z (by rw [h])))
      by_cases z : b = j
      · subst z; exact ek
      · exact h3 b (by omega)
end ZGr
