/-! the class Graph's methods, two: changes -/
theorem pG_cong {m : zm} {o : Nat} {G G' : Gr} (h : pG m o G) (hn : gn G = gn G') (hc : ∀ v, v < 7 → gc G v = gc G' v) (hk : ∀ a b, a < 7 → b < 7 → gk G a b = gk G' a b) : pG m o G' :=
  ⟨by rw [← hn]; exact h.1, fun v hv => by rw [← hc v hv]; exact h.2.1 v hv, fun a b ha hb => by rw [← hk a b ha hb]; exact h.2.2.1 a b ha hb, pL_cong h.2.2.2 fun k x y _ hx hy => by rw [hk x y hx hy]⟩
def xi (G : Gr) (a b i x y : Nat) : Nat := if (x = a ∨ x = b) ∧ (y ≠ a ∧ y ≠ b ∧ y < i) then gk G (tr a b x) y else if (y = a ∨ y = b) ∧ (x ≠ a ∧ x ≠ b ∧ x < i) then gk G x (tr a b y) else gk G x y
def gXi (G : Gr) (a b i : Nat) : Gr := (gn G, fun v => gc G (tr a b v), xi G a b i)
theorem tr_a (a b : Nat) : tr a b a = b := if_pos rfl
theorem tr_b (a b : Nat) : tr a b b = a := by
  unfold tr
  by_cases h : b = a
  · rw [if_pos h]; exact h
  · rw [if_neg h, if_pos rfl]
theorem tr_o {a b x : Nat} (h1 : x ≠ a) (h2 : x ≠ b) : tr a b x = x := by unfold tr; rw [if_neg h1, if_neg h2]
theorem xi_step {G : Gr} (hG : gOK G) {a b i : Nat} (h1 : i ≠ a) (h2 : i ≠ b) (x y : Nat) : xi G a b (i + 1) x y = if pr2 b i x y = true then gk G a i else if pr2 a i x y = true then gk G b i else xi G a b i x y := by
  by_cases p1 : pr2 b i x y = true
  · rw [if_pos p1]
    rcases pr2_iff.mp p1 with ⟨rfl, rfl⟩ | ⟨rfl, rfl⟩
    · unfold xi; rw [if_pos ⟨Or.inr rfl, h1, h2, Nat.lt_succ_self _⟩, tr_b]
    · unfold xi; rw [if_neg (fun z => z.1.elim h1 h2), if_pos ⟨Or.inr rfl, h1, h2, Nat.lt_succ_self _⟩, tr_b, hG.2.2.1]
  · rw [if_neg p1]
    by_cases p2 : pr2 a i x y = true
    · rw [if_pos p2]
      rcases pr2_iff.mp p2 with ⟨rfl, rfl⟩ | ⟨rfl, rfl⟩
      · unfold xi; rw [if_pos ⟨Or.inl rfl, h1, h2, Nat.lt_succ_self _⟩, tr_a]
      · unfold xi; rw [if_neg (fun z => z.1.elim h1 h2), if_pos ⟨Or.inl rfl, h1, h2, Nat.lt_succ_self _⟩, tr_a, hG.2.2.1]
    · rw [if_neg p2]
      have q1 := mt pr2_iff.mpr p1
      have q2 := mt pr2_iff.mpr p2
      have c1 : ((x = a ∨ x = b) ∧ (y ≠ a ∧ y ≠ b ∧ y < i + 1)) ↔ ((x = a ∨ x = b) ∧ (y ≠ a ∧ y ≠ b ∧ y < i)) := by omega
      have c2 : ((y = a ∨ y = b) ∧ (x ≠ a ∧ x ≠ b ∧ x < i + 1)) ↔ ((y = a ∨ y = b) ∧ (x ≠ a ∧ x ≠ b ∧ x < i)) := by omega
      unfold xi
      by_cases d1 : (x = a ∨ x = b) ∧ (y ≠ a ∧ y ≠ b ∧ y < i)
      · rw [if_pos d1, if_pos (c1.mpr d1)]
      · rw [if_neg d1, if_neg (fun z => d1 (c1.mp z))]
        by_cases d2 : (y = a ∨ y = b) ∧ (x ≠ a ∧ x ≠ b ∧ x < i)
        · rw [if_pos d2, if_pos (c2.mpr d2)]
        · rw [if_neg d2, if_neg (fun z => d2 (c2.mp z))]
theorem xi_skip {G : Gr} {a b i : Nat} (h : i = a ∨ i = b) (x y : Nat) : xi G a b (i + 1) x y = xi G a b i x y := by
  have c1 : ((x = a ∨ x = b) ∧ (y ≠ a ∧ y ≠ b ∧ y < i + 1)) ↔ ((x = a ∨ x = b) ∧ (y ≠ a ∧ y ≠ b ∧ y < i)) := by omega
  have c2 : ((y = a ∨ y = b) ∧ (x ≠ a ∧ x ≠ b ∧ x < i + 1)) ↔ ((y = a ∨ y = b) ∧ (x ≠ a ∧ x ≠ b ∧ x < i)) := by omega
  unfold xi
  by_cases d1 : (x = a ∨ x = b) ∧ (y ≠ a ∧ y ≠ b ∧ y < i)
  · rw [if_pos d1, if_pos (c1.mpr d1)]
  · rw [if_neg d1, if_neg (fun z => d1 (c1.mp z))]
    by_cases d2 : (y = a ∨ y = b) ∧ (x ≠ a ∧ x ≠ b ∧ x < i)
    · rw [if_pos d2, if_pos (c2.mpr d2)]
    · rw [if_neg d2, if_neg (fun z => d2 (c2.mp z))]
theorem xi_all {G : Gr} (hG : gWF G) {a b : Nat} (x y : Nat) : xi G a b (gn G) x y = gk G (tr a b x) (tr a b y) := by
  have z1 : ∀ x y, gn G ≤ y → gk G x y = 0 := fun x y h => by rw [hG.1.2.2.1]; exact hG.2.2.2 y x h
  have z2 : ∀ x y, gn G ≤ x → gk G x y = 0 := hG.2.2.2
  unfold xi
  by_cases ha : x = a ∨ x = b
  · by_cases hb : y = a ∨ y = b
    · rw [if_neg (fun z => by have := z.2; omega), if_neg (fun z => by have := z.2; omega)]
      rcases ha with rfl | rfl <;> rcases hb with rfl | rfl
      · rw [hG.1.2.2.2, hG.1.2.2.2]
      · rw [tr_a, tr_b, hG.1.2.2.1]
      · rw [tr_a, tr_b, hG.1.2.2.1]
      · rw [hG.1.2.2.2, hG.1.2.2.2]
    · have hb' : y ≠ a ∧ y ≠ b := ⟨fun z => hb (Or.inl z), fun z => hb (Or.inr z)⟩
      rw [tr_o hb'.1 hb'.2]
      by_cases hy : y < gn G
      · rw [if_pos ⟨ha, hb'.1, hb'.2, hy⟩]
      · rw [if_neg (fun z => hy z.2.2.2), if_neg (fun z => hb z.1), z1 _ _ (by omega), z1 _ _ (by omega)]
  · have ha' : x ≠ a ∧ x ≠ b := ⟨fun z => ha (Or.inl z), fun z => ha (Or.inr z)⟩
    rw [if_neg (fun z => ha z.1), tr_o ha'.1 ha'.2]
    by_cases hb : y = a ∨ y = b
    · by_cases hx : x < gn G
      · rw [if_pos ⟨hb, ha'.1, ha'.2, hx⟩]
      · rw [if_neg (fun z => hx z.2.2.2), z2 _ _ (by omega), z2 _ _ (by omega)]
    · have hb' : y ≠ a ∧ y ≠ b := ⟨fun z => hb (Or.inl z), fun z => hb (Or.inr z)⟩
      rw [if_neg (fun z => hb z.1), tr_o hb'.1 hb'.2]
section ZGr
variable {g : zG} {gr : Bool} {e : Nat} {m : zm} {Q : Option Value → zH → Prop}
theorem k_exchange {o a b : Nat} {G : Gr} (ho : sX1 o) (he : 1 ≤ e) (hG : gWF G) (hp : pG m o G) (ha : a < gn G) (hb : b < gn G) (hab : a ≠ b) (H : ∀ m', pG m' o (gX G a b) → fz o (o + 15) m m' → Q none (mk m')) : Ok g gr e mX1_exchange 0 0 [.ref o, .int (nI a), .int (nI b)] (mk m) Q := by
  obtain ⟨d, rfl⟩ := dn he
  have hn := hG.2.1.2
  refine b_X1_exchange_0 ho ⟨pk_in a 7 (by omega), pk_in b 7 (by omega), ?_⟩
  rw [nI_clamp (show a < 2 ^ 31 by omega), nI_clamp (show b < 2 ^ 31 by omega)]
  intro m1 e1
  refine up_to (n := gn G) (P := fun i => ∀ m', pG m' o (gXi G a b i) → fz o (o + 15) m m' → WP g gr (d + 1) mX1_exchange 0 0 29 [.ref o, .int (nI a), .int (nI b), .retAddr 0, .int (nI i), .retAddr 0] [] (mk m') Q) ?_ ?_ 0 (Nat.zero_le _) _ ?_ (fz_trans (fz_eI e1) fz_wI)
  · intro m' h1 h2
    refine b_X1_exchange_29 ho (pk_le (gn G) (gn G) (fun _ => H m' ?_ h2) (fun z => absurd z (Nat.lt_irrefl _)) h1.1)
    exact pG_cong h1 rfl (fun _ _ => rfl) (fun x y _ _ => xi_all hG x y)
  · intro i hi ih m' h1 h2
    refine b_X1_exchange_29 ho (pk_le (gn G) i (fun z => by omega) (fun _ => pk_eq i a (fun z => ?_) (fun za => pk_eq i b (fun z => ?_) (fun zb => ⟨pk_in a 7 (by omega), pk_in i 7 (by omega), pk_in b 7 (by omega), ?_⟩))) h1.1)
    · rw [nI_1]; exact ih _ (pG_cong h1 rfl (fun _ _ => rfl) (fun x y _ _ => (xi_skip (Or.inl z) x y).symm)) h2
    · rw [nI_1]; exact ih _ (pG_cong h1 rfl (fun _ _ => rfl) (fun x y _ _ => (xi_skip (Or.inr z) x y).symm)) h2
    · rw [nI_clamp (show a < 2 ^ 31 by omega), nI_clamp (show b < 2 ^ 31 by omega), nI_clamp (show i < 2 ^ 31 by omega), h1.2.2.1 b i (by omega) (by omega), h1.2.2.1 a i (by omega) (by omega)]
      have g1 : gk (gXi G a b i) b i = gk G b i := by show xi G a b i b i = _; unfold xi; rw [if_neg (by omega), if_neg (by omega)]
      have g2 : gk (gXi G a b i) a i = gk G a i := by show xi G a b i a i = _; unfold xi; rw [if_neg (by omega), if_neg (by omega)]
      rw [g1, g2]
      refine k_join ho h1 (by omega) (by omega) (by omega) (hG.1.2.1 b i) (fun m2 p2 f2 => ?_)
      refine b_X1_exchange_77 ho (k_join ho p2 (by omega) (by omega) (by omega) (hG.1.2.1 a i) (fun m3 p3 f3 => ?_))
      refine b_X1_exchange_86 ho ?_
      rw [nI_1]
      exact ih _ (pG_cong p3 rfl (fun _ _ => rfl) (fun x y _ _ => (xi_step hG.1 za zb x y).symm)) (fz_trans h2 (fz_trans f2 f3))
  · refine ⟨?_, fun v hv => ?_, fun x y hx hy => ?_, ?_⟩
    · rw [rI_n (by omega), e1, rI_n (by omega)]; exact hp.1
    · show _ = nI (gc G (tr a b v))
      by_cases h1 : v = b
      · subst h1; rw [rI_s, tr_b]; exact hp.2.1 a (by omega)
      · rw [rI_n (fun z => h1 z.2), e1]
        by_cases h2 : v = a
        · subst h2; rw [rI_s, tr_a]; exact hp.2.1 b (by omega)
        · rw [rI_n (fun z => h2 z.2), tr_o h2 h1]; exact hp.2.1 v hv
    · rw [rI_n (by omega), e1, rI_n (by omega)]
      show _ = nI (xi G a b 0 x y)
      unfold xi; rw [if_neg (by omega), if_neg (by omega)]; exact hp.2.2.1 x y hx hy
    · intro k x hk hx
      rw [rI_n (by omega), e1, rI_n (by omega)]
      have : ∀ y, gk (gXi G a b 0) x y = gk G x y := fun y => by show xi G a b 0 x y = _; unfold xi; rw [if_neg (by omega), if_neg (by omega)]
      simp only [this]
      exact hp.2.2.2 k x hk hx
theorem k_mix {o seed : Nat} {G : Gr} (ho : sX1 o) (he : 2 ≤ e) (hG : gWF G) (hp : pG m o G) (hs : seed < 2147483647) (H : ∀ m', pG m' o (mxs (gn G - 1) seed G 0).1 → fz o (o + 15) m m' → Q (some (.int (nI (mxs (gn G - 1) seed G 0).2))) (mk m')) : Ok g gr e mX1_mix 0 0 [.ref o, .int (nI seed)] (mk m) Q := by
  obtain ⟨d, rfl⟩ := dn he
  have hn := hG.2.1
  refine b_X1_mix_0 ho ?_
  rw [hp.1, show (1 : Int32) = nI 1 from rfl, pk_sub hn.1, nI_l (show seed < 2 ^ 31 by omega)]
  have key : ∀ i x G' c m', x < 2147483647 → c + i < 8 → i < gn G' → gWF G' → pG m' o G' → fz o (o + 15) m m' → (∀ m'', pG m'' o (mxs i x G' c).1 → fz o (o + 15) m m'' → Q (some (.int (nI (mxs i x G' c).2))) (mk m'')) → WP g gr (d + 2) mX1_mix 0 0 13 [.ref o, .retAddr 0, .int (nI c), .long (lN x), .retAddr 1, .int (nI i), .retAddr 0] [] (mk m') Q := by
    intro i
    induction i with
    | zero =>
      intro x G' c m' _ _ _ _ h3 h4 h5
      exact b_X1_mix_13 ho (pk_le 0 0 (fun _ => h5 m' h3 h4) (fun z => absurd z (Nat.lt_irrefl _)))
    | succ i ih =>
      intro x G' c m' h0 hc h1 h2 h3 h4 h5
      have hn' := h2.2.1.2
      have hx : 48271 * x < 2 ^ 63 := by omega
      have hdw : dw x < 2147483647 := Nat.mod_lt _ (by decide)
      have e1 : (48271 : Int64) * lN x - (48271 : Int64) * lN x / (2147483647 : Int64) * (2147483647 : Int64) = lN (dw x) := by
        rw [show (48271 : Int64) = lN 48271 from rfl, show (2147483647 : Int64) = lN 2147483647 from rfl, lN_mul, pk_lRem hx (by decide) (by decide)]
        rfl
      have e2 : (nI (i + 1) + (1 : Int32)).toInt64 = lN (i + 2) := by rw [nI_1, nI_l (show i + 1 + 1 < 2 ^ 31 by omega)]
      have e3 : lN (dw x) - lN (dw x) / lN (i + 2) * lN (i + 2) = lN (dw x % (i + 2)) := pk_lRem (by omega) (by omega) (by omega)
      have hm : dw x % (i + 2) < i + 2 := Nat.mod_lt _ (by omega)
      refine b_X1_mix_13 ho (pk_le (i + 1) 0 (fun z => by omega) (fun _ => ⟨?_, ?_⟩))
      · rw [e2, show (0 : Int64) = lN 0 from rfl, lN_eq (by omega) (by decide)]; omega
      · rw [e1, e2, e3, lN_i]
        have e4 : nI (i + 1) + (-1 : Int32) = nI i := pk_m1 i
        refine pk_eq _ _ (fun z => ?_) (fun z => ?_)
        · rw [e4]
          refine ih (dw x) G' c m' hdw (by omega) (by omega) h2 h3 h4 ?_
          have : mxs (i + 1) x G' c = mxs i (dw x) G' c := by show (if _ then _ else _) = _; rw [if_pos z]
          rw [← this]; exact h5
        · refine k_exchange ho (by omega) h2 h3 h1 (by omega) (by omega) (fun m2 p2 f2 => ?_)
          refine b_X1_mix_53 ho ?_
          rw [e4, nI_1]
          refine ih (dw x) (gX G' (i + 1) (dw x % (i + 2))) (c + 1) m2 hdw (by omega) (by show i < gn G'; omega) (gX_WF h2 h1 (by omega)) p2 (fz_trans h4 f2) ?_
          have : mxs (i + 1) x G' c = mxs i (dw x) (gX G' (i + 1) (dw x % (i + 2))) (c + 1) := by show (if _ then _ else _) = _; rw [if_neg z]
          rw [← this]; exact h5
  exact key (gn G - 1) seed G 0 m hs (by omega) (by omega) hG hp (fz_refl _ _ _) H
end ZGr
