/-! the model: two vertices exchanged -/
theorem xi_at {G : Gr} {a b i : Nat} (h1 : i ≠ a) (h2 : i ≠ b) (x : Nat) (hx : x = a ∨ x = b) : xi G a b i x i = gk G x i := by
  unfold xi
  rw [if_neg (fun z => absurd z.2.2.2 (Nat.lt_irrefl _)), if_neg (fun z => z.1.elim h1 h2)]
theorem xi_0 {G : Gr} {a b : Nat} (x y : Nat) : xi G a b 0 x y = gk G x y := by
  unfold xi
  rw [if_neg (fun z => absurd z.2.2.2 (Nat.not_lt_zero _)), if_neg (fun z => absurd z.2.2.2 (Nat.not_lt_zero _))]
section ZAc
variable {g : zG} {gr : Bool} {e : Nat} {m : zm} {Q : Option Value → zH → Prop}
theorem d_swaps {G : Gr} {w a b : Nat} (he : 1 ≤ e) (hG : gWF G) (hw : w < 3) (hp : pW m w G) (ha : a < gn G) (hb : b < gn G) (hab : a ≠ b) (K : ∀ m', pW m' w (gX G a b) → (∀ j, (j < 57 * w ∨ 57 * w + 57 ≤ j) → m'.1 811 j = m.1 811 j) → fM [] [811] m m' → Q none (mk m')) : Ok g gr e mX10_swaps 0 0 [.ref 810, .int (nI w), .int (nI a), .int (nI b)] (mk m) Q := by
  obtain ⟨d, rfl⟩ := dn he
  have h7 := hG.2.1.2
  have tw : ∀ x, tr a b x = if x = a then b else if x = b then a else x := fun x => rfl
  refine b_X10_swaps_0 ?_
  rw [e57, show (1 : Int32) = nI 1 from rfl, nI_add, nI_add, nI_add, cw (show 57 * w + 1 + a < 2 ^ 31 by omega), cw (show 57 * w + 1 + b < 2 ^ 31 by omega), hp.2.1 a (by omega), hp.2.1 b (by omega)]
  refine ⟨pk_in (57 * w + 1 + a) 171 (by omega), pk_in (57 * w + 1 + b) 171 (by omega), ?_⟩
  rintro m1 rfl
  refine up_to (n := gn G) (P := fun i => ∀ m', pW m' w (gXi G a b i) → (∀ j, (j < 57 * w ∨ 57 * w + 57 ≤ j) → m'.1 811 j = m.1 811 j) → fM [] [811] m m' → WP g gr (d + 1) mX10_swaps 0 0 45 [.ref 810, .int (nI w), .int (nI a), .int (nI b), .retAddr 0, .int (nI i), .retAddr 0] [] (mk m') Q) ?_ ?_ 0 (Nat.zero_le _) _ ⟨by rw [rI_n (by omega), rI_n (by omega)]; exact hp.1, fun v hv => ?_, fun x y hx hy => ?_⟩ (fun j hj => by rw [rI_n (by omega), rI_n (by omega)]) (fM_trans fM_r fM_r)
  · intro m' a1 a2 a3
    have p0 : m'.1 811 (57 * w) = nI (gn G) := a1.1
    refine b_X10_swaps_45 ?_
    rw [e57, c57 hw]
    refine ⟨v57 hw, pk_le (gn G) (gn G) (fun _ => K m' ⟨p0, a1.2.1, fun x y hx hy => ?_⟩ a2 a3) (fun z => absurd z (Nat.lt_irrefl _)) p0⟩
    have h := a1.2.2 x y hx hy
    have h : m'.1 811 (57 * w + 8 + 7 * x + y) = nI (xi G a b (gn G) x y) := h
    rw [h, xi_all hG]; rfl
  · intro i hi ih m' a1 a2 a3
    have p0 : m'.1 811 (57 * w) = nI (gn G) := a1.1
    have pk : ∀ x y, x < 7 → y < 7 → m'.1 811 (57 * w + 8 + 7 * x + y) = nI (xi G a b i x y) := a1.2.2
    refine b_X10_swaps_45 ?_
    rw [e57, c57 hw]
    refine ⟨v57 hw, pk_le (gn G) i (fun z => by omega) (fun _ => ?_) p0⟩
    have skip : i = a ∨ i = b → WP g gr (d + 1) mX10_swaps 0 0 45 [.ref 810, .int (nI w), .int (nI a), .int (nI b), .retAddr 0, .int (nI (i + 1)), .retAddr 0] [] (mk m') Q := fun h => ih m' ⟨p0, a1.2.1, fun x y hx hy => by
      show _ = nI (xi G a b (i + 1) x y)
      rw [xi_skip h]; exact pk x y hx hy⟩ a2 a3
    rw [nI_1]
    refine pk_eq i a (fun z => skip (Or.inl z)) (fun z1 => ?_)
    refine (pk_eq i b (fun z => skip (Or.inr z)) (fun z2 => ?_) |> fun h => ⟨h.2, h.1⟩)
    have va := pk a i (by omega) (by omega)
    have vb := pk b i (by omega) (by omega)
    rw [xi_at z1 z2 a (Or.inl rfl)] at va
    rw [xi_at z1 z2 b (Or.inr rfl)] at vb
    rw [show (8 : Int32) = nI 8 from rfl, show (7 : Int32) = nI 7 from rfl, pk_mul, pk_mul, pk_mul, nI_add, nI_add, nI_add, nI_add, nI_add, nI_add, nI_add, nI_add, cw (show 57 * w + 8 + 7 * a + i < 2 ^ 31 by omega), cw (show 57 * w + 8 + 7 * b + i < 2 ^ 31 by omega), cw (show 57 * w + 8 + 7 * i + a < 2 ^ 31 by omega), cw (show 57 * w + 8 + 7 * i + b < 2 ^ 31 by omega), va, vb]
    refine ⟨pk_in (57 * w + 8 + 7 * a + i) 171 (by omega), pk_in (57 * w + 8 + 7 * b + i) 171 (by omega), ?_⟩
    rintro m1 rfl
    refine ⟨pk_in (57 * w + 8 + 7 * i + a) 171 (by omega), ?_⟩
    rintro m2 rfl m3 rfl
    refine ⟨pk_in (57 * w + 8 + 7 * i + b) 171 (by omega), ih _ ⟨by rw [rI_n (by omega), rI_n (by omega), rI_n (by omega), rI_n (by omega)]; exact p0, fun v hv => by rw [rI_n (by omega), rI_n (by omega), rI_n (by omega), rI_n (by omega)]; exact a1.2.1 v hv, fun x y hx hy => ?_⟩ (fun j hj => by rw [rI_n (by omega), rI_n (by omega), rI_n (by omega), rI_n (by omega)]; exact a2 j hj) (fM_trans a3 (fM_trans fM_r (fM_trans fM_r (fM_trans fM_r fM_r))))⟩
    show _ = nI (xi G a b (i + 1) x y)
    rw [xi_step hG.1 z1 z2]
    by_cases q1 : pr2 b i x y = true
    · rw [if_pos q1]
      rcases pr2_iff.mp q1 with ⟨rfl, rfl⟩ | ⟨rfl, rfl⟩
      · rw [rI_n (by omega), rI_s]
      · rw [rI_s]
    · rw [if_neg q1]
      have q1' := mt pr2_iff.mpr q1
      by_cases q2 : pr2 a i x y = true
      · rw [if_pos q2]
        rcases pr2_iff.mp q2 with ⟨rfl, rfl⟩ | ⟨rfl, rfl⟩
        · rw [rI_n (by omega), rI_n (by omega), rI_n (by omega), rI_s]
        · rw [rI_n (by omega), rI_n (by omega), rI_s]
      · rw [if_neg q2]
        have q2' := mt pr2_iff.mpr q2
        rw [rI_n (by omega), rI_n (by omega), rI_n (by omega), rI_n (by omega)]
        exact pk x y hx hy
  · show _ = nI (gc G (tr a b v))
    by_cases z : v = b
    · subst z; rw [rI_s, tr_b]
    · by_cases z2 : v = a
      · subst z2; rw [rI_n (by omega), rI_s, tr_a]
      · rw [rI_n (by omega), rI_n (by omega), tr_o z2 z]; exact hp.2.1 v hv
  · show _ = nI (xi G a b 0 x y)
    rw [rI_n (by omega), rI_n (by omega), xi_0]; exact hp.2.2 x y hx hy
end ZAc
