/-! text: what reading bytes comes to -/
/-- a token at hand (kind: 0 end, 1 sign, 2 word, 3 part, 4 other; where it begins; where the next may begin), the graph so far, the vertices painted so far -/
abbrev Sr : Type := (Nat × Nat × Nat) × Gr × Nat
abbrev s_k (σ : Sr) : Nat := σ.1.1
abbrev s_a (σ : Sr) : Nat := σ.1.2.1
abbrev s_x (σ : Sr) : Nat := σ.1.2.2
abbrev s_G (σ : Sr) : Gr := σ.2.1
abbrev s_p (σ : Sr) : Nat := σ.2.2
abbrev Rs : Type := (Nat × Nat) ⊕ Sr
def isLt (c : Nat) : Bool := decide (97 ≤ c) && decide (c ≤ 122)
theorem isLt_t {c : Nat} (h1 : 97 ≤ c) (h2 : c ≤ 122) : isLt c = true := by simp [isLt, h1, h2]
theorem isLt_f {c : Nat} (h : c < 97 ∨ 122 < c) : isLt c = false := by
  cases z : isLt c
  · rfl
  · simp [isLt] at z; omega
theorem isLt_e {c : Nat} (h : isLt c = true) : 97 ≤ c ∧ c ≤ 122 := by simpa [isLt] using h
theorem isLt_g {c : Nat} (h : isLt c = false) : c < 97 ∨ 122 < c := by
  rcases Nat.lt_or_ge c 97 with z | z
  · exact Or.inl z
  · rcases Nat.lt_or_ge 122 c with y | y
    · exact Or.inr y
    · rw [isLt_t z y] at h; cases h
def skb (b : Nat → Nat) (n : Nat) : Nat → Nat → Nat
  | 0, p => p
  | f + 1, p => if p < n ∧ b p = 32 then skb b n f (p + 1) else p
def wnd (b : Nat → Nat) (n : Nat) : Nat → Nat → Nat
  | 0, p => p
  | f + 1, p => if p < n ∧ isLt (b p) = true then wnd b n f (p + 1) else p
/-- the token from place a on, which is no blank -/
def tka (b : Nat → Nat) (n a : Nat) : Nat × Nat × Nat := if n ≤ a then (0, a, a) else if isLt (b a) = true then (2, a, wnd b n (n - (a + 1)) (a + 1)) else if 48 ≤ b a ∧ b a ≤ 57 then (1, a, a + 1) else if b a = 59 then (3, a, a + 1) else (4, a, a + 1)
def tk (b : Nat → Nat) (n p : Nat) : Nat × Nat × Nat := tka b n (skb b n (n - p) p)
theorem skb_ge (b : Nat → Nat) (n : Nat) : ∀ f p, p ≤ skb b n f p := by
  intro f
  induction f with
  | zero => intro p; exact Nat.le_refl _
  | succ f ih =>
    intro p
    unfold skb
    split
    · exact Nat.le_trans (Nat.le_succ _) (ih (p + 1))
    · exact Nat.le_refl _
theorem wnd_ge (b : Nat → Nat) (n : Nat) : ∀ f p, p ≤ wnd b n f p := by
  intro f
  induction f with
  | zero => intro p; exact Nat.le_refl _
  | succ f ih =>
    intro p
    unfold wnd
    split
    · exact Nat.le_trans (Nat.le_succ _) (ih (p + 1))
    · exact Nat.le_refl _
theorem wnd_le (b : Nat → Nat) (n : Nat) : ∀ f p, p ≤ n → wnd b n f p ≤ n := by
  intro f
  induction f with
  | zero => intro p h; exact h
  | succ f ih =>
    intro p h
    unfold wnd
    split
    · rename_i z; exact ih (p + 1) z.1
    · exact h
theorem skb_le (b : Nat → Nat) (n : Nat) : ∀ f p, p ≤ n → skb b n f p ≤ n := by
  intro f
  induction f with
  | zero => intro p h; exact h
  | succ f ih =>
    intro p h
    unfold skb
    split
    · rename_i z; exact ih (p + 1) z.1
    · exact h
theorem wnd_lt (b : Nat → Nat) (n : Nat) : ∀ f p, ∀ i, p ≤ i → i < wnd b n f p → isLt (b i) = true := by
  intro f
  induction f with
  | zero => intro p i h1 h2; exact absurd (Nat.lt_of_le_of_lt h1 h2) (Nat.lt_irrefl _)
  | succ f ih =>
    intro p i h1 h2
    unfold wnd at h2
    split at h2
    · rename_i z
      rcases Nat.lt_or_ge p i with y | y
      · exact ih (p + 1) i y h2
      · rw [show i = p by omega]; exact z.2
    · omega
/-- what is so of each token -/
def tkW (b : Nat → Nat) (n : Nat) (t : Nat × Nat × Nat) : Prop := t.2.1 ≤ t.2.2 ∧ t.2.2 ≤ n ∧ (t.1 ≠ 0 → t.2.1 < n ∧ t.2.1 < t.2.2) ∧ (t.1 = 0 → t.2.1 = n) ∧ (t.1 = 1 → 48 ≤ b t.2.1 ∧ b t.2.1 ≤ 57) ∧ (t.1 = 2 → ∀ i, t.2.1 ≤ i → i < t.2.2 → isLt (b i) = true) ∧ t.1 < 5
theorem tka_W (b : Nat → Nat) {n a : Nat} (h : a ≤ n) : tkW b n (tka b n a) ∧ (tka b n a).2.1 = a := by
  unfold tka
  split
  · exact ⟨⟨Nat.le_refl _, h, fun z => absurd rfl z, fun _ => by show a = n; omega, fun z => absurd z (by show ¬ (0 : Nat) = 1; decide), fun z => absurd z (by show ¬ (0 : Nat) = 2; decide), by show (0 : Nat) < 5; decide⟩, rfl⟩
  · split
    · rename_i hL
      have h1 := wnd_ge b n (n - (a + 1)) (a + 1)
      have h2 := wnd_le b n (n - (a + 1)) (a + 1) (by omega)
      refine ⟨⟨by show a ≤ wnd _ _ _ _; omega, h2, fun _ => ⟨by show a < n; omega, by show a < wnd _ _ _ _; omega⟩, fun z => absurd z (by show ¬ (2 : Nat) = 0; decide), fun z => absurd z (by show ¬ (2 : Nat) = 1; decide), fun _ i i1 i2 => ?_, by show (2 : Nat) < 5; decide⟩, rfl⟩
      rcases Nat.lt_or_ge a i with y | y
      · exact wnd_lt b n _ _ i y i2
      · rw [show i = a from Nat.le_antisymm y i1]; exact hL
    · split
      · rename_i z
        exact ⟨⟨Nat.le_succ _, by show a + 1 ≤ n; omega, fun _ => ⟨by show a < n; omega, Nat.lt_succ_self _⟩, fun z => absurd z (by show ¬ (1 : Nat) = 0; decide), fun _ => z, fun z => absurd z (by show ¬ (1 : Nat) = 2; decide), by show (1 : Nat) < 5; decide⟩, rfl⟩
      · split
        · exact ⟨⟨Nat.le_succ _, by show a + 1 ≤ n; omega, fun _ => ⟨by show a < n; omega, Nat.lt_succ_self _⟩, fun z => absurd z (by show ¬ (3 : Nat) = 0; decide), fun z => absurd z (by show ¬ (3 : Nat) = 1; decide), fun z => absurd z (by show ¬ (3 : Nat) = 2; decide), by show (3 : Nat) < 5; decide⟩, rfl⟩
        · exact ⟨⟨Nat.le_succ _, by show a + 1 ≤ n; omega, fun _ => ⟨by show a < n; omega, Nat.lt_succ_self _⟩, fun z => absurd z (by show ¬ (4 : Nat) = 0; decide), fun z => absurd z (by show ¬ (4 : Nat) = 1; decide), fun z => absurd z (by show ¬ (4 : Nat) = 2; decide), by show (4 : Nat) < 5; decide⟩, rfl⟩
theorem tk_W (b : Nat → Nat) {n p : Nat} (h : p ≤ n) : tkW b n (tk b n p) ∧ p ≤ (tk b n p).2.1 := by
  have h1 := tka_W b (skb_le b n (n - p) p h)
  refine ⟨h1.1, ?_⟩
  show p ≤ (tka b n (skb b n (n - p) p)).2.1
  rw [h1.2]
  exact skb_ge b n _ _
/-- a state of the reading that can be -/
def srW (b : Nat → Nat) (n : Nat) (σ : Sr) : Prop := tkW b n σ.1 ∧ gWF (s_G σ) ∧ s_p σ < 128
def s_d (b : Nat → Nat) (σ : Sr) : Nat := b (s_a σ) - 48
def s_n (b : Nat → Nat) (n : Nat) (σ : Sr) : Sr := (tk b n (s_x σ), s_G σ, s_p σ)
theorem s_d_le {b : Nat → Nat} {n : Nat} {σ : Sr} (h : srW b n σ) (h1 : s_k σ = 1) : s_d b σ ≤ 9 := by
  have := h.1.2.2.2.2.1 h1
  unfold s_d; show b σ.1.2.1 - 48 ≤ 9; omega
theorem s_n_W {b : Nat → Nat} {n : Nat} {σ : Sr} (h : srW b n σ) : srW b n (s_n b n σ) ∧ s_x σ ≤ s_a (s_n b n σ) := ⟨⟨(tk_W b h.1.2.1).1, h.2.1, h.2.2⟩, (tk_W b h.1.2.1).2⟩
/-- the word at hand -/
def isWd (b : Nat → Nat) (σ : Sr) (w : List Nat) : Prop := s_k σ = 2 ∧ s_x σ - s_a σ = w.length ∧ ∀ i, i < w.length → b (s_a σ + i) = w.getD i 0
def rPaint (b : Nat → Nat) (n : Nat) (σ : Sr) : Rs :=
  if ¬ s_k σ = 1 then .inl (1, s_a σ) else if gn (s_G σ) ≤ s_d b σ then .inl (2, s_a σ) else if (s_p σ).testBit (s_d b σ) = true then .inl (3, s_a σ)
  else if ¬ s_k (s_n b n σ) = 1 then .inl (1, s_a (s_n b n σ))
  else .inr (s_n b n ((s_n b n σ).1, gP (s_G σ) (s_d b σ) (s_d b (s_n b n σ)), s_p σ ||| 2 ^ s_d b σ))
def rLnk (b : Nat → Nat) (n : Nat) (a : Nat) (σ : Sr) : Rs :=
  if ¬ s_k σ = 1 then .inl (1, s_a σ) else if gn (s_G σ) ≤ s_d b σ then .inl (2, s_a σ) else if a = s_d b σ ∨ ¬ gk (s_G σ) a (s_d b σ) = 0 then .inl (3, s_a σ)
  else .inr (s_n b n (σ.1, gJ (s_G σ) a (s_d b σ) 1, s_p σ))
def rLink (b : Nat → Nat) (n : Nat) (σ : Sr) : Rs :=
  if ¬ s_k σ = 1 then .inl (1, s_a σ) else if gn (s_G σ) ≤ s_d b σ then .inl (2, s_a σ)
  else match rLnk b n (s_d b σ) (s_n b n σ) with
    | .inl e => .inl e
    | .inr τ => if ¬ s_k τ = 1 then .inr τ else if s_d b τ < 1 ∨ 3 < s_d b τ then .inl (2, s_a τ) else .inr (s_n b n (τ.1, gJ (s_G τ) (s_d b σ) (s_d b (s_n b n σ)) (s_d b τ), s_p τ))
def rEnd (first last : Nat) (ring : Bool) (σ : Sr) : Rs :=
  if ring = true ∧ (s_k σ = 3 ∨ s_k σ = 0) then (if last = first ∨ ¬ gk (s_G σ) last first = 0 then .inl (3, s_a σ) else .inr (σ.1, gJ (s_G σ) last first 1, s_p σ)) else .inr σ
def rChn (b : Nat → Nat) (n : Nat) : Nat → Nat → Nat → Nat → Bool → Sr → Rs
  | 0, _, first, last, ring, σ => rEnd first last ring σ
  | f + 1, need, first, last, ring, σ => if 0 < need ∨ s_k σ = 1 then (match rLnk b n last σ with
      | .inl e => .inl e
      | .inr τ => rChn b n f (need - 1) first (s_d b σ) ring τ) else rEnd first last ring σ
def rChain (b : Nat → Nat) (n : Nat) (need : Nat) (ring : Bool) (σ : Sr) : Rs :=
  if ¬ s_k σ = 1 then .inl (1, s_a σ) else if gn (s_G σ) ≤ s_d b σ then .inl (2, s_a σ) else rChn b n 401 need (s_d b σ) (s_d b σ) ring (s_n b n σ)
def w_size : List Nat := [115, 105, 122, 101]
def w_paint : List Nat := [112, 97, 105, 110, 116]
def w_link : List Nat := [108, 105, 110, 107]
def w_path : List Nat := [112, 97, 116, 104]
def w_ring : List Nat := [114, 105, 110, 103]
noncomputable def rLine (b : Nat → Nat) (n : Nat) (σ : Sr) : Rs := by
  classical
  exact if isWd b σ w_paint then rPaint b n (s_n b n σ) else if isWd b σ w_link then rLink b n (s_n b n σ) else if isWd b σ w_path then rChain b n 1 false (s_n b n σ) else if isWd b σ w_ring then rChain b n 2 true (s_n b n σ) else .inl (1, s_a σ)
noncomputable def rLines (b : Nat → Nat) (n : Nat) : Nat → Sr → Rs
  | 0, σ => .inr σ
  | f + 1, σ => if s_k σ = 3 then (match rLine b n (s_n b n σ) with
      | .inl e => .inl e
      | .inr τ => rLines b n f τ) else if s_k σ = 0 then .inr σ else .inl (1, s_a σ)
def sr0 (b : Nat → Nat) (n : Nat) (G : Gr) : Sr := (tk b n 0, G, 0)
noncomputable def rAll (b : Nat → Nat) (n : Nat) : Rs := by
  classical
  exact if ¬ isWd b (sr0 b n (gE 1)) w_size then .inl (1, s_a (sr0 b n (gE 1))) else if ¬ s_k (s_n b n (sr0 b n (gE 1))) = 1 then .inl (1, s_a (s_n b n (sr0 b n (gE 1)))) else if s_d b (s_n b n (sr0 b n (gE 1))) < 1 ∨ 7 < s_d b (s_n b n (sr0 b n (gE 1))) then .inl (2, s_a (s_n b n (sr0 b n (gE 1))))
    else rLines b n 401 (s_n b n ((s_n b n (sr0 b n (gE 1))).1, gE (s_d b (s_n b n (sr0 b n (gE 1)))), 0))
/-- what a step of the reading leaves can be, and lies behind -/
def rsW (b : Nat → Nat) (n p : Nat) (r : Rs) : Prop := ∀ τ, r = .inr τ → srW b n τ ∧ p ≤ s_a τ
theorem rsW_l {b : Nat → Nat} {n p : Nat} {e : Nat × Nat} : rsW b n p (.inl e) := fun _ h => by cases h
theorem rsW_r {b : Nat → Nat} {n p : Nat} {τ : Sr} (h : srW b n τ ∧ p ≤ s_a τ) : rsW b n p (.inr τ) := fun _ e => by cases e; exact h
theorem s_x_ge {b : Nat → Nat} {n : Nat} {σ : Sr} (h : srW b n σ) : s_a σ ≤ s_x σ := h.1.1
theorem rPaint_W {b : Nat → Nat} {n : Nat} {σ : Sr} (h : srW b n σ) : rsW b n (s_a σ + 1) (rPaint b n σ) := by
  unfold rPaint
  split
  · exact rsW_l
  · rename_i h1
    split
    · exact rsW_l
    · rename_i h2
      split
      · exact rsW_l
      · split
        · exact rsW_l
        · rename_i h4
          have k1 : s_k σ = 1 := Decidable.not_not.mp h1
          have k4 : s_k (s_n b n σ) = 1 := Decidable.not_not.mp h4
          have hn := s_n_W h
          have hv : s_d b σ < gn (s_G σ) := Nat.lt_of_not_le h2
          have h3 : srW b n ((s_n b n σ).1, gP (s_G σ) (s_d b σ) (s_d b (s_n b n σ)), s_p σ ||| 2 ^ s_d b σ) := ⟨hn.1.1, gP_WF h.2.1 hv (by have := s_d_le hn.1 k4; omega), or_128 h.2.2 (p2_7 (by have := h.2.1.2.1.2; omega))⟩
          have h5 := s_n_W h3
          have h6 := h.1.2.2.1 (by show σ.1.1 ≠ 0; rw [show σ.1.1 = 1 from k1]; decide)
          refine rsW_r ⟨h5.1, ?_⟩
          have h7 : s_x (s_n b n σ) ≤ _ := h5.2
          have h8 := hn.2
          have h9 := s_x_ge hn.1
          have h10 : s_a σ < s_x σ := h6.2
          omega
theorem rLnk_W {b : Nat → Nat} {n a : Nat} {σ : Sr} (h : srW b n σ) (ha : a < gn (s_G σ)) : rsW b n (s_a σ + 1) (rLnk b n a σ) ∧ ∀ τ, rLnk b n a σ = .inr τ → s_k σ = 1 ∧ s_d b σ < gn (s_G σ) ∧ gn (s_G τ) = gn (s_G σ) := by
  unfold rLnk
  split
  · exact ⟨rsW_l, fun _ e => by cases e⟩
  · rename_i h1
    split
    · exact ⟨rsW_l, fun _ e => by cases e⟩
    · rename_i h2
      split
      · exact ⟨rsW_l, fun _ e => by cases e⟩
      · rename_i h3
        have k1 : s_k σ = 1 := Decidable.not_not.mp h1
        have hv : s_d b σ < gn (s_G σ) := Nat.lt_of_not_le h2
        have h4 : srW b n (σ.1, gJ (s_G σ) a (s_d b σ) 1, s_p σ) := ⟨h.1, gJ_WF h.2.1 (by decide) (fun z => h3 (Or.inl z)) ha hv, h.2.2⟩
        have h5 := s_n_W h4
        have h6 : s_a σ < s_x σ := (h.1.2.2.1 (by show σ.1.1 ≠ 0; rw [show σ.1.1 = 1 from k1]; decide)).2
        have h7 : s_x σ ≤ _ := h5.2
        exact ⟨rsW_r ⟨h5.1, by omega⟩, fun τ e => by cases e; exact ⟨k1, hv, rfl⟩⟩
theorem rLink_W {b : Nat → Nat} {n : Nat} {σ : Sr} (h : srW b n σ) : rsW b n (s_a σ + 1) (rLink b n σ) := by
  unfold rLink
  split
  · exact rsW_l
  · rename_i h1
    split
    · exact rsW_l
    · rename_i h2
      have k1 : s_k σ = 1 := Decidable.not_not.mp h1
      have hv : s_d b σ < gn (s_G σ) := Nat.lt_of_not_le h2
      have hn := s_n_W h
      have h6 : s_a σ < s_x σ := (h.1.2.2.1 (by show σ.1.1 ≠ 0; rw [show σ.1.1 = 1 from k1]; decide)).2
      have h7 := rLnk_W (a := s_d b σ) hn.1 hv
      split
      · exact rsW_l
      · rename_i τ e
        have h8 := h7.1 τ e
        have h9 := h7.2 τ e
        have h11 := hn.2
        split
        · exact rsW_r ⟨h8.1, by omega⟩
        · split
          · exact rsW_l
          · rename_i h10
            have hne : s_d b σ ≠ s_d b (s_n b n σ) := fun z => by
              unfold rLnk at e
              rw [if_neg (show ¬ ¬ s_k (s_n b n σ) = 1 by rw [h9.1]; simp), if_neg (show ¬ gn (s_G (s_n b n σ)) ≤ s_d b (s_n b n σ) by omega), if_pos (Or.inl z)] at e
              cases e
            have hg : gn (s_G τ) = gn (s_G σ) := h9.2.2
            have h12 : srW b n (τ.1, gJ (s_G τ) (s_d b σ) (s_d b (s_n b n σ)) (s_d b τ), s_p τ) := ⟨h8.1.1, gJ_WF h8.1.2.1 (by omega) hne (by omega) (by have := h9.2.1; rw [hg]; exact this), h8.1.2.2⟩
            have h13 := s_n_W h12
            have h14 : s_x τ ≤ _ := h13.2
            have h15 := s_x_ge h8.1
            exact rsW_r ⟨h13.1, by omega⟩
theorem rEnd_W {b : Nat → Nat} {n first last : Nat} {ring : Bool} {σ : Sr} (h : srW b n σ) (hf : first < gn (s_G σ)) (hl : last < gn (s_G σ)) : rsW b n (s_a σ) (rEnd first last ring σ) := by
  unfold rEnd
  split
  · split
    · exact rsW_l
    · rename_i h3
      exact rsW_r ⟨⟨h.1, gJ_WF h.2.1 (by decide) (fun z => h3 (Or.inl z)) hl hf, h.2.2⟩, Nat.le_refl _⟩
  · exact rsW_r ⟨h, Nat.le_refl _⟩
theorem rChn_W {b : Nat → Nat} {n first : Nat} {ring : Bool} : ∀ (f need last : Nat) (σ : Sr), srW b n σ → first < gn (s_G σ) → last < gn (s_G σ) → rsW b n (s_a σ) (rChn b n f need first last ring σ) := by
  intro f
  induction f with
  | zero => intro need last σ h hf hl; exact rEnd_W h hf hl
  | succ f ih =>
    intro need last σ h hf hl
    unfold rChn
    split
    · have h7 := rLnk_W (a := last) h hl
      split
      · exact rsW_l
      · rename_i τ e
        have h8 := h7.1 τ e
        have h9 := h7.2 τ e
        intro υ eu
        have := ih (need - 1) (s_d b σ) τ h8.1 (by rw [h9.2.2]; exact hf) (by rw [h9.2.2]; exact h9.2.1) υ eu
        exact ⟨this.1, by omega⟩
    · exact rEnd_W h hf hl
theorem rChain_W {b : Nat → Nat} {n need : Nat} {ring : Bool} {σ : Sr} (h : srW b n σ) : rsW b n (s_a σ + 1) (rChain b n need ring σ) := by
  unfold rChain
  split
  · exact rsW_l
  · rename_i h1
    split
    · exact rsW_l
    · rename_i h2
      have k1 : s_k σ = 1 := Decidable.not_not.mp h1
      have hv : s_d b σ < gn (s_G σ) := Nat.lt_of_not_le h2
      have hn := s_n_W h
      have h6 : s_a σ < s_x σ := (h.1.2.2.1 (by show σ.1.1 ≠ 0; rw [show σ.1.1 = 1 from k1]; decide)).2
      intro υ eu
      have := rChn_W _ _ _ _ hn.1 hv hv υ eu
      have h8 := hn.2
      exact ⟨this.1, by omega⟩
theorem rLine_W {b : Nat → Nat} {n : Nat} {σ : Sr} (h : srW b n σ) : rsW b n (s_a σ + 1) (rLine b n σ) := by
  classical
  have hn := s_n_W h
  have h1 := s_x_ge h
  have key : ∀ r, rsW b n (s_a (s_n b n σ) + 1) r → rsW b n (s_a σ + 1) r := fun r hr τ e => ⟨(hr τ e).1, by have := (hr τ e).2; omega⟩
  unfold rLine
  split
  · exact key _ (rPaint_W hn.1)
  · split
    · exact key _ (rLink_W hn.1)
    · split
      · exact key _ (rChain_W hn.1)
      · split
        · exact key _ (rChain_W hn.1)
        · exact rsW_l
theorem rLnk_1 {b : Nat → Nat} {n a : Nat} {σ : Sr} (h : ¬ s_k σ = 1) : rLnk b n a σ = .inl (1, s_a σ) := by unfold rLnk; rw [if_pos h]
theorem rLnk_2 {b : Nat → Nat} {n a : Nat} {σ : Sr} (h : s_k σ = 1) (h2 : gn (s_G σ) ≤ s_d b σ) : rLnk b n a σ = .inl (2, s_a σ) := by unfold rLnk; rw [if_neg (fun z => z h), if_pos h2]
theorem rLnk_3 {b : Nat → Nat} {n a : Nat} {σ : Sr} (h : s_k σ = 1) (h2 : ¬ gn (s_G σ) ≤ s_d b σ) (h3 : a = s_d b σ ∨ ¬ gk (s_G σ) a (s_d b σ) = 0) : rLnk b n a σ = .inl (3, s_a σ) := by unfold rLnk; rw [if_neg (fun z => z h), if_neg h2, if_pos h3]
theorem rLnk_0 {b : Nat → Nat} {n a : Nat} {σ : Sr} (h : s_k σ = 1) (h2 : ¬ gn (s_G σ) ≤ s_d b σ) (h3 : ¬ (a = s_d b σ ∨ ¬ gk (s_G σ) a (s_d b σ) = 0)) : rLnk b n a σ = .inr (s_n b n (σ.1, gJ (s_G σ) a (s_d b σ) 1, s_p σ)) := by unfold rLnk; rw [if_neg (fun z => z h), if_neg h2, if_neg h3]
theorem rLink_1 {b : Nat → Nat} {n : Nat} {σ : Sr} (h : ¬ s_k σ = 1) : rLink b n σ = .inl (1, s_a σ) := by unfold rLink; rw [if_pos h]
theorem rLink_2 {b : Nat → Nat} {n : Nat} {σ : Sr} (h : s_k σ = 1) (h2 : gn (s_G σ) ≤ s_d b σ) : rLink b n σ = .inl (2, s_a σ) := by unfold rLink; rw [if_neg (fun z => z h), if_pos h2]
theorem rLink_e {b : Nat → Nat} {n : Nat} {σ : Sr} {x : Nat × Nat} (h : s_k σ = 1) (h2 : ¬ gn (s_G σ) ≤ s_d b σ) (h3 : rLnk b n (s_d b σ) (s_n b n σ) = .inl x) : rLink b n σ = .inl x := by unfold rLink; rw [if_neg (fun z => z h), if_neg h2, h3]
theorem rLink_a {b : Nat → Nat} {n : Nat} {σ τ : Sr} (h : s_k σ = 1) (h2 : ¬ gn (s_G σ) ≤ s_d b σ) (h3 : rLnk b n (s_d b σ) (s_n b n σ) = .inr τ) (h4 : ¬ s_k τ = 1) : rLink b n σ = .inr τ := by
  unfold rLink; rw [if_neg (fun z => z h), if_neg h2, h3]; show (if ¬ s_k τ = 1 then _ else _) = _; rw [if_pos h4]
theorem rLink_b {b : Nat → Nat} {n : Nat} {σ τ : Sr} (h : s_k σ = 1) (h2 : ¬ gn (s_G σ) ≤ s_d b σ) (h3 : rLnk b n (s_d b σ) (s_n b n σ) = .inr τ) (h4 : s_k τ = 1) (h5 : s_d b τ < 1 ∨ 3 < s_d b τ) : rLink b n σ = .inl (2, s_a τ) := by
  unfold rLink; rw [if_neg (fun z => z h), if_neg h2, h3]; show (if ¬ s_k τ = 1 then _ else _) = _; rw [if_neg (fun z => z h4), if_pos h5]
theorem rLink_c {b : Nat → Nat} {n : Nat} {σ τ : Sr} (h : s_k σ = 1) (h2 : ¬ gn (s_G σ) ≤ s_d b σ) (h3 : rLnk b n (s_d b σ) (s_n b n σ) = .inr τ) (h4 : s_k τ = 1) (h5 : ¬ (s_d b τ < 1 ∨ 3 < s_d b τ)) : rLink b n σ = .inr (s_n b n (τ.1, gJ (s_G τ) (s_d b σ) (s_d b (s_n b n σ)) (s_d b τ), s_p τ)) := by
  unfold rLink; rw [if_neg (fun z => z h), if_neg h2, h3]; show (if ¬ s_k τ = 1 then _ else _) = _; rw [if_neg (fun z => z h4), if_neg h5]
theorem rEnd_0 {first last : Nat} {ring : Bool} {σ : Sr} (h : ¬ (ring = true ∧ (s_k σ = 3 ∨ s_k σ = 0))) : rEnd first last ring σ = .inr σ := by unfold rEnd; rw [if_neg h]
theorem rEnd_1 {first last : Nat} {ring : Bool} {σ : Sr} (h : ring = true ∧ (s_k σ = 3 ∨ s_k σ = 0)) : rEnd first last ring σ = if last = first ∨ ¬ gk (s_G σ) last first = 0 then .inl (3, s_a σ) else .inr (σ.1, gJ (s_G σ) last first 1, s_p σ) := by unfold rEnd; rw [if_pos h]
theorem rChn_e {b : Nat → Nat} {n f need first last : Nat} {ring : Bool} {σ : Sr} {x : Nat × Nat} (h : 0 < need ∨ s_k σ = 1) (h2 : rLnk b n last σ = .inl x) : rChn b n (f + 1) need first last ring σ = .inl x := by unfold rChn; rw [if_pos h, h2]
theorem rChn_i {b : Nat → Nat} {n f need first last : Nat} {ring : Bool} {σ τ : Sr} (h : 0 < need ∨ s_k σ = 1) (h2 : rLnk b n last σ = .inr τ) : rChn b n (f + 1) need first last ring σ = rChn b n f (need - 1) first (s_d b σ) ring τ := by
  conv => lhs; unfold rChn
  rw [if_pos h, h2]
theorem rChn_0 {b : Nat → Nat} {n f need first last : Nat} {ring : Bool} {σ : Sr} (h : ¬ (0 < need ∨ s_k σ = 1)) : rChn b n f need first last ring σ = rEnd first last ring σ := by
  cases f
  · rfl
  · unfold rChn; rw [if_neg h]
theorem rLines_e {b : Nat → Nat} {n f : Nat} {σ : Sr} {x : Nat × Nat} (h : s_k σ = 3) (h2 : rLine b n (s_n b n σ) = .inl x) : rLines b n (f + 1) σ = .inl x := by
  conv => lhs; unfold rLines
  rw [if_pos h, h2]
theorem rLines_i {b : Nat → Nat} {n f : Nat} {σ τ : Sr} (h : s_k σ = 3) (h2 : rLine b n (s_n b n σ) = .inr τ) : rLines b n (f + 1) σ = rLines b n f τ := by
  conv => lhs; unfold rLines
  rw [if_pos h, h2]
theorem rLines_0 {b : Nat → Nat} {n f : Nat} {σ : Sr} (h : s_k σ = 0) : rLines b n (f + 1) σ = .inr σ := by
  conv => lhs; unfold rLines
  rw [if_neg (by rw [h]; decide), if_pos h]
