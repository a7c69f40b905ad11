/-! a text that grows piece by piece -/
def tPP (n : Nat) (L : List Nat) (Z : Gr → Nat → Prop) : Prop := ∀ (b : Nat → Nat) (N : Nat), L.length ≤ N → (∀ i, i < L.length → b i = L.getD i 0) → (L.length = N ∨ b L.length = 59) → ∃ f G P, 401 ≤ f + L.length ∧ gn G = n ∧ Z G P ∧ rAll b N = rLines b N f (tk b N L.length, G, P)
theorem tPP_mono {n : Nat} {L : List Nat} {Z Z' : Gr → Nat → Prop} (h : tPP n L Z) (hz : ∀ G P, Z G P → Z' G P) : tPP n L Z' := fun b N h1 h2 h3 => by
  obtain ⟨f, G, P, a1, a2, a3, a4⟩ := h b N h1 h2 h3
  exact ⟨f, G, P, a1, a2, hz G P a3, a4⟩
/-- a longer text's front and rest -/
theorem pre_app {b : Nat → Nat} {L W : List Nat} (h : ∀ i, i < (L ++ W).length → b i = (L ++ W).getD i 0) : (∀ i, i < L.length → b i = L.getD i 0) ∧ hAt b L.length W := by
  have h0 : hAt b 0 (L ++ W) := fun i hi => by rw [Nat.zero_add]; exact h i hi
  obtain ⟨a, c⟩ := hAt_app h0
  rw [Nat.zero_add] at c
  exact ⟨fun i hi => by have := a i hi; rw [Nat.zero_add] at this; exact this, c⟩
def Zp (v : Nat) (G : Gr) (P : Nat) : Prop := (∀ x y, gk G x y = 0) ∧ ∀ u, v ≤ u → P.testBit u = false
def Zl (a c : Nat) (G : Gr) (_ : Nat) : Prop := ∀ x y, x < y → (a < x ∨ (x = a ∧ c ≤ y)) → gk G x y = 0
def wSize (n : Nat) : List Nat := [115, 105, 122, 101, 32, 48 + n]
def wKind (k : Nat) : List Nat := if k = 1 then [] else [32, 48 + k]
theorem tPP_size {n : Nat} (h1 : 1 ≤ n) (h7 : n ≤ 7) : tPP n (wSize n) (Zp 0) := by
  intro b N hN hb he
  have hN : 6 ≤ N := hN
  have e0 : b 0 = 115 := hb 0 (Nat.le_of_ble_eq_true rfl)
  have e1 : b 1 = 105 := hb 1 (Nat.le_of_ble_eq_true rfl)
  have e2 : b 2 = 122 := hb 2 (Nat.le_of_ble_eq_true rfl)
  have e3 : b 3 = 101 := hb 3 (Nat.le_of_ble_eq_true rfl)
  have e4 : b 4 = 32 := hb 4 (Nat.le_of_ble_eq_true rfl)
  have e5 : b 5 = 48 + n := hb 5 (Nat.le_of_ble_eq_true rfl)
  have hw4 : ∀ i, i < 4 → b (0 + i) = w_size.getD i 0 := fun i hi => by
    rw [Nat.zero_add]
    have hi2 : i = 0 ∨ i = 1 ∨ i = 2 ∨ i = 3 := by omega
    rcases hi2 with rfl | rfl | rfl | rfl
    · exact e0
    · exact e1
    · exact e2
    · exact e3
  have t0 : tk b N 0 = (2, 0, 4) := by
    have := tk_word (b := b) (n := N) (p := 0) (k := 4) (by omega) (by omega) (fun i hi => by
      rw [hw4 i hi]
      have hi2 : i = 0 ∨ i = 1 ∨ i = 2 ∨ i = 3 := by omega
      rcases hi2 with rfl | rfl | rfl | rfl <;> decide) (fun z => by
      have := z.2
      rw [Nat.zero_add, e4] at this
      exact absurd this (by decide))
    exact this
  have t1 : tk b N 4 = (1, 5, 6) := by rw [tk_sp (by omega) e4]; exact tk_dig (by omega) e5 (by omega)
  have d5 : b 5 - 48 = n := by omega
  refine ⟨401, gE n, 0, by omega, rfl, ⟨fun _ _ => rfl, fun u _ => Nat.zero_testBit u⟩, ?_⟩
  have x0 : isWd b (sr0 b N (gE 1)) w_size := by
    show isWd b (tk b N 0, gE 1, 0) w_size
    rw [t0]
    exact ⟨rfl, rfl, hw4⟩
  have x1 : s_n b N (sr0 b N (gE 1)) = ((1, 5, 6), gE 1, 0) := by
    show (tk b N (tk b N 0).2.2, gE 1, 0) = _
    rw [t0]
    show (tk b N 4, gE 1, 0) = _
    rw [t1]
  unfold rAll
  rw [if_neg (fun z => z x0), x1, if_neg (fun z => z rfl), if_neg (by show ¬ (b 5 - 48 < 1 ∨ 7 < b 5 - 48); omega)]
  show rLines b N 401 (tk b N 6, gE (b 5 - 48), 0) = _
  rw [d5]
  rfl
theorem tPP_paint {n v c : Nat} {L : List Nat} (h : tPP n L (Zp v)) (hL : L.length ≤ 400) (hv : v < n) (hn : n ≤ 7) (hc : c ≤ 9) : tPP n (L ++ wPaint v c) (Zp (v + 1)) := by
  intro b N hN hb he
  obtain ⟨p1, p2⟩ := pre_app hb
  have el : (L ++ wPaint v c).length = L.length + 10 := by rw [List.length_append]; rfl
  rw [el] at hN he ⊢
  obtain ⟨f, G, P, a1, a2, ⟨a3, a4⟩, a5⟩ := h b N (by omega) p1 (Or.inr (p2 0 (Nat.le_of_ble_eq_true rfl)))
  obtain ⟨f, rfl⟩ : ∃ f', f = f' + 1 := ⟨f - 1, by omega⟩
  refine ⟨f, gP G v c, P ||| 2 ^ v, by omega, a2, ⟨a3, fun u hu => ?_⟩, ?_⟩
  · rw [Nat.testBit_or, a4 u (by omega), Nat.testBit_two_pow_of_ne (by omega)]; rfl
  · rw [a5]
    exact rl_paint p2 hN (by omega) (by omega) hc (a4 v (Nat.le_refl _))
theorem wKind_len (k : Nat) : (wKind k).length = if k = 1 then 0 else 2 := by unfold wKind; split <;> rfl
theorem tPP_link {n a c k : Nat} {L : List Nat} (h : tPP n L (Zl a c)) (hL : L.length ≤ 400) (hac : a < c) (hc : c < n) (hn : n ≤ 7) (hk : 1 ≤ k ∧ k ≤ 3) : tPP n (L ++ (wLink a c ++ wKind k)) (Zl a (c + 1)) := by
  intro b N hN hb he
  obtain ⟨p1, p2⟩ := pre_app hb
  obtain ⟨p3, p4⟩ := hAt_app p2
  have p4 : hAt b (L.length + 9) (wKind k) := p4
  have el : (L ++ (wLink a c ++ wKind k)).length = L.length + (if k = 1 then 9 else 11) := by
    rw [List.length_append, List.length_append, wKind_len]
    show L.length + (9 + _) = _
    split <;> rfl
  rw [el] at hN he ⊢
  obtain ⟨f, G, P, a1, a2, a3, a5⟩ := h b N (by split at hN <;> omega) p1 (Or.inr (p3 0 (Nat.le_of_ble_eq_true rfl)))
  obtain ⟨f, rfl⟩ : ∃ f', f = f' + 1 := ⟨f - 1, by omega⟩
  have hk2 : k = 1 ∧ (tk b N (L.length + 9)).1 ≠ 1 ∨ (2 ≤ k ∧ k ≤ 3 ∧ L.length + 11 ≤ N ∧ b (L.length + 9) = 32 ∧ b (L.length + 10) = 48 + k) := by
    by_cases z : k = 1
    · rw [if_pos z] at he
      refine Or.inl ⟨z, ?_⟩
      rcases Nat.lt_or_ge (L.length + 9) N with y | y
      · rcases he with e | e
        · omega
        · rw [tk_semi y e]; show (3 : Nat) ≠ 1; decide
      · have e : L.length + 9 = N := by rw [if_pos z] at hN; omega
        rw [e, tk_end]; show (0 : Nat) ≠ 1; decide
    · unfold wKind at p4
      rw [if_neg z] at p4
      rw [if_neg z] at hN
      exact Or.inr ⟨by omega, by omega, hN, p4 0 (Nat.le_of_ble_eq_true rfl), p4 1 (Nat.le_of_ble_eq_true rfl)⟩
  obtain ⟨G', g1, g2, g3, g4⟩ := rl_link (f := f) p3 (by split at hN <;> omega) hk2 (show a < gn G by omega) (show c < gn G by omega) (by omega) (by omega) (a3 a c hac (Or.inr ⟨rfl, Nat.le_refl _⟩))
  refine ⟨f, G', P, by split <;> omega, by omega, fun x y hxy hz => ?_, by rw [a5, g4]⟩
  rw [g3 x y (by
    cases q : pr2 a c x y with
    | false => rfl
    | true => have := pr2_iff.mp q; omega)]
  exact a3 x y hxy (by omega)
theorem Zp_l {v : Nat} {G : Gr} {P : Nat} (h : Zp v G P) : Zl 0 1 G P := fun x y _ _ => h.1 x y
theorem Zl_next {a c : Nat} {G : Gr} {P : Nat} (h : Zl a c G P) : Zl (a + 1) (a + 2) G P := fun x y hxy hz => h x y hxy (by omega)
theorem tPP_end {n : Nat} {L : List Nat} {Z : Gr → Nat → Prop} (h : tPP n L Z) {b : Nat → Nat} (hb : ∀ i, i < L.length → b i = L.getD i 0) : ∃ τ, rAll b L.length = .inr τ ∧ gn (s_G τ) = n := by
  obtain ⟨f, G, P, a1, a2, a3, a4⟩ := h b L.length (Nat.le_refl _) hb (Or.inl rfl)
  rw [tk_end] at a4
  exact ⟨((0, L.length, L.length), G, P), by rw [a4]; exact rLs_0 rfl, a2⟩
theorem tPP_ring {n : Nat} {L : List Nat} (h : tPP n L (Zp n)) (hL : L.length ≤ 400) (h3 : 3 ≤ n) (h7 : n ≤ 7) {b : Nat → Nat} (hb : ∀ i, i < (L ++ (wRing0 ++ wRing n)).length → b i = (L ++ (wRing0 ++ wRing n)).getD i 0) : ∃ τ, rAll b (L ++ (wRing0 ++ wRing n)).length = .inr τ ∧ gn (s_G τ) = n := by
  obtain ⟨p1, p2⟩ := pre_app hb
  have el : (L ++ (wRing0 ++ wRing n)).length = L.length + 5 + 2 * n := by
    rw [List.length_append, List.length_append, wRing_len]
    show L.length + (5 + 2 * n) = _
    omega
  rw [el]
  obtain ⟨f, G, P, a1, a2, ⟨a3, a4⟩, a5⟩ := h b (L.length + 5 + 2 * n) (by omega) p1 (Or.inr (p2 0 (Nat.le_of_ble_eq_true rfl)))
  obtain ⟨f, rfl⟩ : ∃ f', f = f' + 1 := ⟨f - 1, by omega⟩
  rw [a5]
  exact rl_ring p2 rfl a2 h3 (by omega) a3
