/-! a text that is put together is read without a fault -/
theorem tk_sp {b : Nat → Nat} {n p : Nat} (h : p < n) (h2 : b p = 32) : tk b n p = tk b n (p + 1) := by
  unfold tk
  obtain ⟨k, hk⟩ : ∃ k, n - p = k + 1 := ⟨n - p - 1, by omega⟩
  rw [hk, show n - (p + 1) = k by omega]
  show tka b n (if p < n ∧ b p = 32 then skb b n k (p + 1) else p) = _
  rw [if_pos ⟨h, h2⟩]
theorem tk_no {b : Nat → Nat} {n p : Nat} (h : ¬ (p < n ∧ b p = 32)) : tk b n p = tka b n p := by
  have key : ∀ k, skb b n k p = p := fun k => by
    cases k with
    | zero => rfl
    | succ k => show (if p < n ∧ b p = 32 then skb b n k (p + 1) else p) = p; exact if_neg h
  unfold tk
  rw [key]
theorem tk_end (b : Nat → Nat) (n : Nat) : tk b n n = (0, n, n) := by
  rw [tk_no (by omega)]
  unfold tka
  rw [if_pos (Nat.le_refl _)]
theorem tk_semi {b : Nat → Nat} {n p : Nat} (h : p < n) (h2 : b p = 59) : tk b n p = (3, p, p + 1) := by
  rw [tk_no (by omega)]
  unfold tka
  rw [if_neg (by omega), if_neg (by rw [h2]; decide), if_neg (by omega), if_pos h2]
theorem tk_dig {b : Nat → Nat} {n p d : Nat} (h : p < n) (h2 : b p = 48 + d) (hd : d ≤ 9) : tk b n p = (1, p, p + 1) := by
  rw [tk_no (by omega)]
  unfold tka
  rw [if_neg (by omega), if_neg (by rw [isLt_f (Or.inl (by omega))]; decide), if_pos (by omega)]
theorem wnd_w {b : Nat → Nat} {n : Nat} : ∀ (k f p : Nat), k ≤ f → (∀ i, i < k → isLt (b (p + i)) = true) → p + k ≤ n → ¬ (p + k < n ∧ isLt (b (p + k)) = true) → wnd b n f p = p + k := by
  intro k
  induction k with
  | zero =>
    intro f p _ _ _ h
    cases f with
    | zero => rfl
    | succ f => show (if p < n ∧ isLt (b p) = true then wnd b n f (p + 1) else p) = p; exact if_neg h
  | succ k ih =>
    intro f p hf hl hn h
    obtain ⟨f, rfl⟩ : ∃ f', f = f' + 1 := ⟨f - 1, by omega⟩
    show (if p < n ∧ isLt (b p) = true then wnd b n f (p + 1) else p) = _
    rw [if_pos ⟨by omega, hl 0 (by omega)⟩, ih f (p + 1) (by omega) (fun i hi => by rw [show p + 1 + i = p + (i + 1) by omega]; exact hl (i + 1) (by omega)) (by omega) (by rw [show p + 1 + k = p + (k + 1) by omega]; exact h)]
    omega
theorem tk_word {b : Nat → Nat} {n p k : Nat} (hk : 0 < k) (hin : p + k ≤ n) (hl : ∀ i, i < k → isLt (b (p + i)) = true) (h : ¬ (p + k < n ∧ isLt (b (p + k)) = true)) : tk b n p = (2, p, p + k) := by
  have h0 := hl 0 hk
  have h0' := isLt_e h0
  rw [tk_no (fun z => by have := z.2; have h1 : 97 ≤ b p := h0'.1; omega)]
  unfold tka
  rw [if_neg (by omega), if_pos (show isLt (b p) = true from h0), wnd_w (k - 1) _ _ (by omega) (fun i hi => by rw [show p + 1 + i = p + (i + 1) by omega]; exact hl (i + 1) (by omega)) (by omega) (by rw [show p + 1 + (k - 1) = p + k by omega]; exact h), show p + 1 + (k - 1) = p + k by omega]
/-- some bytes stand at a place -/
def hAt (b : Nat → Nat) (p : Nat) (W : List Nat) : Prop := ∀ i, i < W.length → b (p + i) = W.getD i 0
theorem hAt_app {b : Nat → Nat} {p : Nat} {A B : List Nat} (h : hAt b p (A ++ B)) : hAt b p A ∧ hAt b (p + A.length) B := by
  constructor
  · intro i hi
    rw [h i (by rw [List.length_append]; omega)]
    simp only [List.getD_eq_getElem?_getD]
    rw [List.getElem?_append_left hi]
  · intro i hi
    rw [show p + A.length + i = p + (A.length + i) by omega, h (A.length + i) (by rw [List.length_append]; omega)]
    simp only [List.getD_eq_getElem?_getD]
    rw [List.getElem?_append_right (by omega), show A.length + i - A.length = i by omega]
theorem rLs_0 {b : Nat → Nat} {n f : Nat} {σ : Sr} (h : s_k σ = 0) : rLines b n f σ = .inr σ := by
  cases f with
  | zero => rfl
  | succ f => exact rLines_0 h
def wPaint (v c : Nat) : List Nat := [59, 112, 97, 105, 110, 116, 32, 48 + v, 32, 48 + c]
def wLink (a c : Nat) : List Nat := [59, 108, 105, 110, 107, 32, 48 + a, 32, 48 + c]
def wRing0 : List Nat := [59, 114, 105, 110, 103]
theorem rl_paint {b : Nat → Nat} {N f p v c : Nat} {G : Gr} {P : Nat} (hW : hAt b p (wPaint v c)) (hN : p + 10 ≤ N) (hv : v < gn G) (hv9 : v ≤ 9) (hc : c ≤ 9) (hP : P.testBit v = false) : rLines b N (f + 1) (tk b N p, G, P) = rLines b N f (tk b N (p + 10), gP G v c, P ||| 2 ^ v) := by
  have e0 : b p = 59 := hW 0 (Nat.le_of_ble_eq_true rfl)
  have e1 : b (p + 1) = 112 := hW 1 (Nat.le_of_ble_eq_true rfl)
  have e2 : b (p + 2) = 97 := hW 2 (Nat.le_of_ble_eq_true rfl)
  have e3 : b (p + 3) = 105 := hW 3 (Nat.le_of_ble_eq_true rfl)
  have e4 : b (p + 4) = 110 := hW 4 (Nat.le_of_ble_eq_true rfl)
  have e5 : b (p + 5) = 116 := hW 5 (Nat.le_of_ble_eq_true rfl)
  have e6 : b (p + 6) = 32 := hW 6 (Nat.le_of_ble_eq_true rfl)
  have e7 : b (p + 7) = 48 + v := hW 7 (Nat.le_of_ble_eq_true rfl)
  have e8 : b (p + 8) = 32 := hW 8 (Nat.le_of_ble_eq_true rfl)
  have e9 : b (p + 9) = 48 + c := hW 9 (Nat.le_of_ble_eq_true rfl)
  have t0 : tk b N p = (3, p, p + 1) := tk_semi (by omega) e0
  have hw5 : ∀ i, i < 5 → b (p + 1 + i) = w_paint.getD i 0 := fun i hi => by
    have hi2 : i = 0 ∨ i = 1 ∨ i = 2 ∨ i = 3 ∨ i = 4 := by omega
    rcases hi2 with rfl | rfl | rfl | rfl | rfl
    · exact e1
    · exact e2
    · exact e3
    · exact e4
    · exact e5
  have t1 : tk b N (p + 1) = (2, p + 1, p + 6) := tk_word (k := 5) (by omega) (by omega) (fun i hi => by
    rw [hw5 i hi]
    have hi2 : i = 0 ∨ i = 1 ∨ i = 2 ∨ i = 3 ∨ i = 4 := by omega
    rcases hi2 with rfl | rfl | rfl | rfl | rfl <;> decide) (fun z => by
    have := z.2
    rw [show p + 1 + 5 = p + 6 by omega, e6] at this
    exact absurd this (by decide))
  have t2 : tk b N (p + 6) = (1, p + 7, p + 8) := by rw [tk_sp (by omega) e6]; exact tk_dig (by omega) e7 hv9
  have t3 : tk b N (p + 8) = (1, p + 9, p + 10) := by rw [tk_sp (by omega) e8]; exact tk_dig (by omega) e9 hc
  have d7 : b (p + 7) - 48 = v := by omega
  have d9 : b (p + 9) - 48 = c := by omega
  refine rLines_i (by rw [t0]) ?_
  rw [t0]
  show rLine b N (tk b N (p + 1), G, P) = _
  rw [t1]
  unfold rLine
  rw [if_pos (show isWd b ((2, p + 1, p + 6), G, P) w_paint from ⟨rfl, by show p + 6 - (p + 1) = 5; omega, hw5⟩)]
  show rPaint b N (tk b N (p + 6), G, P) = _
  rw [t2]
  unfold rPaint
  rw [if_neg (fun z => z rfl), if_neg (by show ¬ gn G ≤ b (p + 7) - 48; omega), if_neg (by show ¬ P.testBit (b (p + 7) - 48) = true; rw [d7, hP]; decide)]
  show (if ¬ (tk b N (p + 8)).1 = 1 then _ else Sum.inr (tk b N (tk b N (p + 8)).2.2, gP G (b (p + 7) - 48) (b (tk b N (p + 8)).2.1 - 48), P ||| 2 ^ (b (p + 7) - 48))) = _
  rw [t3, if_neg (fun z => z rfl), d7]
  show Sum.inr (tk b N (p + 10), gP G v (b (p + 9) - 48), P ||| 2 ^ v) = _
  rw [d9]
theorem rl_link {b : Nat → Nat} {N f p v c k : Nat} {G : Gr} {P : Nat} (hW : hAt b p (wLink v c)) (hN : p + 9 ≤ N) (hk : k = 1 ∧ (tk b N (p + 9)).1 ≠ 1 ∨ (2 ≤ k ∧ k ≤ 3 ∧ p + 11 ≤ N ∧ b (p + 9) = 32 ∧ b (p + 10) = 48 + k)) (hv : v < gn G) (hc : c < gn G) (hn : gn G ≤ 9) (hvc : v ≠ c) (h0 : gk G v c = 0) : ∃ G', gn G' = gn G ∧ gc G' = gc G ∧ (∀ x y, pr2 v c x y = false → gk G' x y = gk G x y) ∧ rLines b N (f + 1) (tk b N p, G, P) = rLines b N f (tk b N (p + (if k = 1 then 9 else 11)), G', P) := by
  have e0 : b p = 59 := hW 0 (Nat.le_of_ble_eq_true rfl)
  have e1 : b (p + 1) = 108 := hW 1 (Nat.le_of_ble_eq_true rfl)
  have e2 : b (p + 2) = 105 := hW 2 (Nat.le_of_ble_eq_true rfl)
  have e3 : b (p + 3) = 110 := hW 3 (Nat.le_of_ble_eq_true rfl)
  have e4 : b (p + 4) = 107 := hW 4 (Nat.le_of_ble_eq_true rfl)
  have e5 : b (p + 5) = 32 := hW 5 (Nat.le_of_ble_eq_true rfl)
  have e6 : b (p + 6) = 48 + v := hW 6 (Nat.le_of_ble_eq_true rfl)
  have e7 : b (p + 7) = 32 := hW 7 (Nat.le_of_ble_eq_true rfl)
  have e8 : b (p + 8) = 48 + c := hW 8 (Nat.le_of_ble_eq_true rfl)
  have t0 : tk b N p = (3, p, p + 1) := tk_semi (by omega) e0
  have hw4 : ∀ i, i < 4 → b (p + 1 + i) = w_link.getD i 0 := fun i hi => by
    have hi2 : i = 0 ∨ i = 1 ∨ i = 2 ∨ i = 3 := by omega
    rcases hi2 with rfl | rfl | rfl | rfl
    · exact e1
    · exact e2
    · exact e3
    · exact e4
  have t1 : tk b N (p + 1) = (2, p + 1, p + 5) := tk_word (k := 4) (by omega) (by omega) (fun i hi => by
    rw [hw4 i hi]
    have hi2 : i = 0 ∨ i = 1 ∨ i = 2 ∨ i = 3 := by omega
    rcases hi2 with rfl | rfl | rfl | rfl <;> decide) (fun z => by
    have := z.2
    rw [show p + 1 + 4 = p + 5 by omega, e5] at this
    exact absurd this (by decide))
  have t2 : tk b N (p + 5) = (1, p + 6, p + 7) := by rw [tk_sp (by omega) e5]; exact tk_dig (by omega) e6 (by omega)
  have t3 : tk b N (p + 7) = (1, p + 8, p + 9) := by rw [tk_sp (by omega) e7]; exact tk_dig (by omega) e8 (by omega)
  have d6 : b (p + 6) - 48 = v := by omega
  have d8 : b (p + 8) - 48 = c := by omega
  have hp1 : ∀ x y, pr2 v c x y = false → gk (gJ G v c 1) x y = gk G x y := fun x y z => if_neg (by rw [z]; decide)
  have l1 : rLnk b N v (tk b N (p + 7), G, P) = .inr (tk b N (p + 9), gJ G v c 1, P) := by
    rw [t3]
    unfold rLnk
    rw [if_neg (fun z => z rfl), if_neg (by show ¬ gn G ≤ b (p + 8) - 48; omega), if_neg (by show ¬ (v = b (p + 8) - 48 ∨ ¬ gk G v (b (p + 8) - 48) = 0); rw [d8, h0]; exact fun z => z.elim hvc (fun y => y rfl))]
    show Sum.inr (tk b N (p + 9), gJ G v (b (p + 8) - 48) 1, P) = _
    rw [d8]
  have one : rLine b N (tk b N (p + 1), G, P) = rLink b N (tk b N (p + 5), G, P) := by
    rw [t1]
    unfold rLine
    rw [if_neg (show ¬ isWd b ((2, p + 1, p + 5), G, P) w_paint from fun z => by have := z.2.1; have h2 : p + 5 - (p + 1) = 5 := this; omega), if_pos (show isWd b ((2, p + 1, p + 5), G, P) w_link from ⟨rfl, by show p + 5 - (p + 1) = 4; omega, hw4⟩)]
    rfl
  have g6 : ¬ gn G ≤ b (p + 6) - 48 := by omega
  rcases hk with ⟨k1, kt⟩ | ⟨k2, k3, hN2, x9, x10⟩
  · refine ⟨gJ G v c 1, rfl, rfl, hp1, rLines_i (by rw [t0]) ?_⟩
    rw [if_pos k1, t0]
    show rLine b N (tk b N (p + 1), G, P) = _
    rw [one, t2]
    exact rLink_a (σ := ((1, p + 6, p + 7), G, P)) (τ := (tk b N (p + 9), gJ G v c 1, P)) rfl g6 (by show rLnk b N (b (p + 6) - 48) (tk b N (p + 7), G, P) = _; rw [d6]; exact l1) kt
  · have t4 : tk b N (p + 9) = (1, p + 10, p + 11) := by rw [tk_sp (by omega) x9]; exact tk_dig (by omega) x10 (by omega)
    have d10 : b (p + 10) - 48 = k := by omega
    rw [t4] at l1
    refine ⟨gJ (gJ G v c 1) v c k, rfl, rfl, fun x y z => ?_, rLines_i (by rw [t0]) ?_⟩
    · show (if pr2 v c x y = true then k else gk (gJ G v c 1) x y) = _
      rw [if_neg (by rw [z]; decide)]; exact hp1 x y z
    · rw [if_neg (by omega), t0]
      show rLine b N (tk b N (p + 1), G, P) = _
      rw [one, t2]
      have h := rLink_c (b := b) (n := N) (σ := ((1, p + 6, p + 7), G, P)) (τ := ((1, p + 10, p + 11), gJ G v c 1, P)) rfl g6 (by show rLnk b N (b (p + 6) - 48) (tk b N (p + 7), G, P) = _; rw [d6]; exact l1) rfl (by show ¬ (b (p + 10) - 48 < 1 ∨ 3 < b (p + 10) - 48); omega)
      rw [h]
      show Sum.inr (tk b N (p + 11), gJ (gJ G v c 1) (b (p + 6) - 48) (b (tk b N (p + 7)).2.1 - 48) (b (p + 10) - 48), P) = _
      rw [t3, d6, d10]
      show Sum.inr (tk b N (p + 11), gJ (gJ G v c 1) v (b (p + 8) - 48) k, P) = _
      rw [d8]
/-- a ring of all -/
def wRing : Nat → List Nat
  | 0 => []
  | v + 1 => wRing v ++ [32, 48 + v]
theorem wRing_len (v : Nat) : (wRing v).length = 2 * v := by
  induction v with
  | zero => rfl
  | succ v ih => show (wRing v ++ [32, 48 + v]).length = _; rw [List.length_append, ih]; show 2 * v + 2 = _; omega
theorem wRing_at {b : Nat → Nat} {p : Nat} : ∀ (n : Nat), hAt b p (wRing n) → ∀ v, v < n → b (p + 2 * v) = 32 ∧ b (p + (2 * v + 1)) = 48 + v := by
  intro n
  induction n with
  | zero => intro _ v hv; omega
  | succ n ih =>
    intro h v hv
    obtain ⟨h1, h2⟩ := hAt_app h
    by_cases z : v < n
    · exact ih h1 v z
    · have e : v = n := by omega
      subst e
      rw [wRing_len] at h2
      exact ⟨h2 0 (Nat.le_of_ble_eq_true rfl), by rw [← Nat.add_assoc]; exact h2 1 (Nat.le_of_ble_eq_true rfl)⟩
def rIn (G : Gr) (last : Nat) : Prop := ∀ x y, gk G x y ≠ 0 → (x + 1 = y ∧ y ≤ last) ∨ (y + 1 = x ∧ x ≤ last)
theorem rl_chain {b : Nat → Nat} {N q n : Nat} (hn : n ≤ 9) (hn3 : 3 ≤ n) (hN : N = q + 2 * n) (hb : ∀ v, v < n → b (q + 2 * v) = 32 ∧ b (q + (2 * v + 1)) = 48 + v) : ∀ (r last f need : Nat) (G : Gr) (P : Nat), last + 1 + r = n → r < f → need ≤ r → gn G = n → rIn G last → ∃ τ, rChn b N f need 0 last true (tk b N (q + 2 * (last + 1)), G, P) = .inr τ ∧ gn (s_G τ) = n ∧ s_k τ = 0 := by
  intro r
  induction r with
  | zero =>
    intro last f need G P h1 h2 h3 hG hR
    have e : q + 2 * (last + 1) = N := by omega
    have hneed : need = 0 := by omega
    rw [e, tk_end]
    refine ⟨((0, N, N), gJ G last 0 1, P), ?_, hG, rfl⟩
    rw [rChn_0 (by show ¬ (0 < need ∨ (0 : Nat) = 1); omega), rEnd_1 ⟨rfl, Or.inr rfl⟩, if_neg (by
      show ¬ (last = 0 ∨ ¬ gk G last 0 = 0)
      rintro (z | z)
      · omega
      · have := hR last 0 z; omega)]
  | succ r ih =>
    intro last f need G P h1 h2 h3 hG hR
    obtain ⟨f, rfl⟩ : ∃ f', f = f' + 1 := ⟨f - 1, by omega⟩
    obtain ⟨x1, x2⟩ := hb (last + 1) (by omega)
    have t : tk b N (q + 2 * (last + 1)) = (1, q + (2 * (last + 1) + 1), q + 2 * (last + 1 + 1)) := by
      rw [tk_sp (by omega) x1, show q + 2 * (last + 1) + 1 = q + (2 * (last + 1) + 1) by omega, tk_dig (by omega) x2 (by omega)]
      rw [show q + (2 * (last + 1) + 1) + 1 = q + 2 * (last + 1 + 1) by omega]
    have d : b (q + (2 * (last + 1) + 1)) - 48 = last + 1 := by omega
    have l1 : rLnk b N last (tk b N (q + 2 * (last + 1)), G, P) = .inr (tk b N (q + 2 * (last + 1 + 1)), gJ G last (last + 1) 1, P) := by
      rw [t]
      unfold rLnk
      rw [if_neg (fun z => z rfl), if_neg (by show ¬ gn G ≤ b (q + (2 * (last + 1) + 1)) - 48; omega), if_neg (by
        show ¬ (last = b (q + (2 * (last + 1) + 1)) - 48 ∨ ¬ gk G last (b (q + (2 * (last + 1) + 1)) - 48) = 0)
        rw [d]
        rintro (z | z)
        · omega
        · have := hR last (last + 1) z; omega)]
      show Sum.inr (tk b N (q + 2 * (last + 1 + 1)), gJ G last (b (q + (2 * (last + 1) + 1)) - 48) 1, P) = _
      rw [d]
    obtain ⟨τ, a1, a2⟩ := ih (last + 1) f (need - 1) (gJ G last (last + 1) 1) P (by omega) (by omega) (by omega) hG (fun x y hxy => by
      by_cases z : pr2 last (last + 1) x y = true
      · have := pr2_iff.mp z; omega
      · have e : gk (gJ G last (last + 1) 1) x y = gk G x y := if_neg z
        rw [e] at hxy
        have := hR x y hxy
        omega)
    refine ⟨τ, ?_, a2⟩
    rw [rChn_i (Or.inr (by rw [t])) l1, t]
    show rChn b N f (need - 1) 0 (b (q + (2 * (last + 1) + 1)) - 48) true _ = _
    rw [d]
    exact a1
theorem rl_ring {b : Nat → Nat} {N f p n : Nat} {G : Gr} {P : Nat} (hW : hAt b p (wRing0 ++ wRing n)) (hN : N = p + 5 + 2 * n) (hn : gn G = n) (hn3 : 3 ≤ n) (hn9 : n ≤ 9) (h0 : ∀ x y, gk G x y = 0) : ∃ τ, rLines b N (f + 1) (tk b N p, G, P) = .inr τ ∧ gn (s_G τ) = n := by
  obtain ⟨hA, hB⟩ := hAt_app hW
  have hB : hAt b (p + 5) (wRing n) := hB
  have hb := wRing_at n hB
  have e0 : b p = 59 := hA 0 (Nat.le_of_ble_eq_true rfl)
  have e1 : b (p + 1) = 114 := hA 1 (Nat.le_of_ble_eq_true rfl)
  have e2 : b (p + 2) = 105 := hA 2 (Nat.le_of_ble_eq_true rfl)
  have e3 : b (p + 3) = 110 := hA 3 (Nat.le_of_ble_eq_true rfl)
  have e4 : b (p + 4) = 103 := hA 4 (Nat.le_of_ble_eq_true rfl)
  have e5 : b (p + 5) = 32 := (hb 0 (by omega)).1
  have e6 : b (p + 6) = 48 + 0 := (hb 0 (by omega)).2
  have t0 : tk b N p = (3, p, p + 1) := tk_semi (by omega) e0
  have hw4 : ∀ i, i < 4 → b (p + 1 + i) = w_ring.getD i 0 := fun i hi => by
    have hi2 : i = 0 ∨ i = 1 ∨ i = 2 ∨ i = 3 := by omega
    rcases hi2 with rfl | rfl | rfl | rfl
    · exact e1
    · exact e2
    · exact e3
    · exact e4
  have t1 : tk b N (p + 1) = (2, p + 1, p + 5) := tk_word (k := 4) (by omega) (by omega) (fun i hi => by
    rw [hw4 i hi]
    have hi2 : i = 0 ∨ i = 1 ∨ i = 2 ∨ i = 3 := by omega
    rcases hi2 with rfl | rfl | rfl | rfl <;> decide) (fun z => by
    have := z.2
    rw [show p + 1 + 4 = p + 5 by omega, e5] at this
    exact absurd this (by decide))
  have t2 : tk b N (p + 5) = (1, p + 6, p + 7) := by rw [tk_sp (by omega) e5]; exact tk_dig (by omega) e6 (by omega)
  have d6 : b (p + 6) - 48 = 0 := by omega
  obtain ⟨τ, a1, a2, a3⟩ := rl_chain (b := b) hn9 hn3 hN hb (n - 1) 0 401 2 G P (by omega) (by omega) (by omega) hn (fun x y z => absurd (h0 x y) z)
  refine ⟨τ, ?_, a2⟩
  have hl : rLine b N (s_n b N (tk b N p, G, P)) = .inr τ := by
    rw [t0]
    show rLine b N (tk b N (p + 1), G, P) = _
    rw [t1]
    have nw : ∀ w : List Nat, w.getD 0 0 ≠ 114 → ¬ isWd b ((2, p + 1, p + 5), G, P) w ∨ w.length = 0 := fun w hw => by
      by_cases z : w.length = 0
      · exact Or.inr z
      · refine Or.inl fun y => hw ?_
        have := y.2.2 0 (by omega)
        have h2 : b (p + 1) = w.getD 0 0 := this
        rw [← h2]; exact e1
    unfold rLine
    rw [if_neg ((nw w_paint (by decide)).resolve_right (by decide)), if_neg ((nw w_link (by decide)).resolve_right (by decide)), if_neg ((nw w_path (by decide)).resolve_right (by decide)), if_pos (show isWd b ((2, p + 1, p + 5), G, P) w_ring from ⟨rfl, by show p + 5 - (p + 1) = 4; omega, hw4⟩)]
    show rChain b N 2 true (tk b N (p + 5), G, P) = _
    rw [t2]
    unfold rChain
    rw [if_neg (fun z => z rfl), if_neg (by show ¬ gn G ≤ b (p + 6) - 48; omega)]
    show rChn b N 401 2 (b (p + 6) - 48) (b (p + 6) - 48) true (tk b N (p + 7), G, P) = _
    rw [d6]
    exact a1
  rw [rLines_i (by rw [t0]) hl]
  exact rLs_0 a3
