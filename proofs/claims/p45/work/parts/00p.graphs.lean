/-! graphs: what is pure of them -/
def lk (k x : Nat) : Bool := if k = 0 then !(x == 0) else x == k
theorem lk_0 (k : Nat) : lk k 0 = false := by unfold lk; split <;> simp <;> omega
def pr2 (a b x y : Nat) : Bool := (x == a && y == b) || (x == b && y == a)
theorem pr2_iff {a b x y : Nat} : pr2 a b x y = true ↔ (x = a ∧ y = b) ∨ (x = b ∧ y = a) := by unfold pr2; simp
def gJ (G : Gr) (a b k : Nat) : Gr := (gn G, gc G, fun x y => if pr2 a b x y = true then k else gk G x y)
theorem pr2_sym (a b x y : Nat) : pr2 a b x y = pr2 a b y x := by unfold pr2; cases x == a <;> cases x == b <;> cases y == a <;> cases y == b <;> rfl
theorem gJ_OK {G : Gr} {a b k : Nat} (hG : gOK G) (hk : k < 4) (hab : a ≠ b) : gOK (gJ G a b k) := by
  refine ⟨hG.1, fun x y => ?_, fun x y => ?_, fun x => ?_⟩
  · show (if _ then _ else _) < 4
    split
    · exact hk
    · exact hG.2.1 x y
  · show (if pr2 a b x y = true then k else gk G x y) = (if pr2 a b y x = true then k else gk G y x)
    rw [pr2_sym, hG.2.2.1 x y]
  · show (if pr2 a b x x = true then k else gk G x x) = 0
    rw [if_neg, hG.2.2.2]
    rw [pr2_iff]
    rintro (⟨h1, h2⟩ | ⟨h1, h2⟩) <;> omega
theorem up_to {n : Nat} {P : Nat → Prop} (h0 : P n) (hs : ∀ i, i < n → P (i + 1) → P i) : ∀ i, i ≤ n → P i := by
  have key : ∀ k i, i + k = n → P i := by
    intro k
    induction k with
    | zero => intro i hi; rw [show i = n by omega]; exact h0
    | succ k ih => intro i hi; exact hs i (by omega) (ih (i + 1) (by omega))
  exact fun i hi => key (n - i) i (by omega)
def tr (a b x : Nat) : Nat := if x = a then b else if x = b then a else x
def gX (G : Gr) (a b : Nat) : Gr := (gn G, fun v => gc G (tr a b v), fun x y => gk G (tr a b x) (tr a b y))
def gT (G : Gr) : Gr := (gn G, gc G, fun x y => if x < gn G ∧ y < gn G ∧ x ≠ y then gk G x y ^^^ 1 else gk G x y)
def gE (n : Nat) : Gr := (n, fun _ => 0, fun _ _ => 0)
def gA (G : Gr) (set col : Nat) : Gr := (gn G + 1, fun v => if v = gn G then col else gc G v, fun x y => if x = gn G ∧ y < gn G then (if set.testBit y = true then 1 else 0) else if y = gn G ∧ x < gn G then (if set.testBit x = true then 1 else 0) else gk G x y)
def skp (v x : Nat) : Nat := if x < v then x else x + 1
def gD (G : Gr) (v : Nat) : Gr := (gn G - 1, fun x => if x < gn G - 1 then gc G (skp v x) else 0, fun x y => if x < gn G - 1 ∧ y < gn G - 1 then gk G (skp v x) (skp v y) else 0)
def dgr (G : Gr) (v : Nat) : Nat := fb_ct (fun b => lk 0 (gk G v b)) 7
def mxl (G : Gr) : Nat → Nat
  | 0 => 0
  | v + 1 => if mxl G v < dgr G v then dgr G v else mxl G v
theorem tr_lt {a b n x : Nat} (ha : a < n) (hb : b < n) (hx : x < n) : tr a b x < n := by
  unfold tr
  split
  · exact hb
  · split <;> assumption
theorem tr_tr {a b x : Nat} : tr a b (tr a b x) = x := by
  unfold tr
  by_cases h1 : x = a
  · rw [if_pos h1]
    by_cases h2 : b = a
    · rw [if_pos h2]; omega
    · rw [if_neg h2, if_pos rfl]; exact h1.symm
  · rw [if_neg h1]
    by_cases h2 : x = b
    · rw [if_pos h2, if_pos rfl]; exact h2.symm
    · rw [if_neg h2, if_neg h1, if_neg h2]
theorem tr_inj {a b x y : Nat} (h : tr a b x = tr a b y) : x = y := by rw [← tr_tr (a := a) (b := b) (x := x), h, tr_tr]
theorem gX_OK {G : Gr} {a b : Nat} (hG : gOK G) : gOK (gX G a b) := ⟨fun _ => hG.1 _, fun _ _ => hG.2.1 _ _, fun _ _ => hG.2.2.1 _ _, fun _ => hG.2.2.2 _⟩
theorem gX_WF {G : Gr} {a b : Nat} (hG : gWF G) (ha : a < gn G) (hb : b < gn G) : gWF (gX G a b) := by
  have hi : ∀ v, gn G ≤ v → tr a b v = v := fun v hv => by unfold tr; rw [if_neg (by omega), if_neg (by omega)]
  exact ⟨gX_OK hG.1, hG.2.1, fun v hv => by show gc G (tr a b v) = 0; rw [hi v hv]; exact hG.2.2.1 v hv, fun x y hx => by show gk G (tr a b x) (tr a b y) = 0; rw [hi x hx]; exact hG.2.2.2 x _ hx⟩
theorem x3 : ∀ x, x < 4 → x ^^^ 1 < 4 := by decide
theorem gT_OK {G : Gr} (hG : gOK G) : gOK (gT G) := by
  refine ⟨hG.1, fun x y => ?_, fun x y => ?_, fun x => ?_⟩
  · show (if _ then _ else _) < 4
    split
    · exact x3 _ (hG.2.1 x y)
    · exact hG.2.1 x y
  · show (if x < gn G ∧ y < gn G ∧ x ≠ y then gk G x y ^^^ 1 else gk G x y) = (if y < gn G ∧ x < gn G ∧ y ≠ x then gk G y x ^^^ 1 else gk G y x)
    rw [hG.2.2.1 x y]
    by_cases h : x < gn G ∧ y < gn G ∧ x ≠ y
    · rw [if_pos h, if_pos ⟨h.2.1, h.1, Ne.symm h.2.2⟩]
    · rw [if_neg h, if_neg (fun z => h ⟨z.2.1, z.1, Ne.symm z.2.2⟩)]
  · show (if x < gn G ∧ x < gn G ∧ x ≠ x then _ else gk G x x) = 0
    rw [if_neg (fun z => z.2.2 rfl)]; exact hG.2.2.2 x
theorem gT_WF {G : Gr} (hG : gWF G) : gWF (gT G) := ⟨gT_OK hG.1, hG.2.1, hG.2.2.1, fun x y hx => by
  show (if x < gn G ∧ _ then _ else gk G x y) = 0
  have hx : gn G ≤ x := hx
  rw [if_neg (fun z => by have := z.1; omega)]; exact hG.2.2.2 x y hx⟩
theorem gJ_WF {G : Gr} {a b k : Nat} (hG : gWF G) (hk : k < 4) (hab : a ≠ b) (ha : a < gn G) (hb : b < gn G) : gWF (gJ G a b k) := ⟨gJ_OK hG.1 hk hab, hG.2.1, hG.2.2.1, fun x y hx => by
  show (if _ then _ else gk G x y) = 0
  rw [if_neg (fun z => by have := pr2_iff.mp z; have hx : gn G ≤ x := hx; omega)]; exact hG.2.2.2 x y hx⟩
theorem gE_OK (n : Nat) : gOK (gE n) := ⟨fun _ => (by show (0 : Nat) < 10; decide), fun _ _ => (by show (0 : Nat) < 4; decide), fun _ _ => rfl, fun _ => rfl⟩
theorem gE_WF {n : Nat} (h : 1 ≤ n ∧ n ≤ 7) : gWF (gE n) := ⟨gE_OK n, h, fun _ _ => rfl, fun _ _ _ => rfl⟩
theorem gD_WF {G : Gr} {v : Nat} (hG : gWF G) (hn : 1 < gn G) : gWF (gD G v) := by
  refine ⟨⟨fun x => ?_, fun x y => ?_, fun x y => ?_, fun x => ?_⟩, ⟨by show 1 ≤ gn G - 1; omega, by have := hG.2.1.2; show gn G - 1 ≤ 7; omega⟩, fun x hx => ?_, fun x y hx => ?_⟩
  · show (if _ then _ else _) < 10
    split
    · exact hG.1.1 _
    · decide
  · show (if _ then _ else _) < 4
    split
    · exact hG.1.2.1 _ _
    · decide
  · show (if x < gn G - 1 ∧ y < gn G - 1 then gk G (skp v x) (skp v y) else 0) = (if y < gn G - 1 ∧ x < gn G - 1 then gk G (skp v y) (skp v x) else 0)
    rw [hG.1.2.2.1 (skp v x)]
    by_cases h : x < gn G - 1 ∧ y < gn G - 1
    · rw [if_pos h, if_pos ⟨h.2, h.1⟩]
    · rw [if_neg h, if_neg (fun z => h ⟨z.2, z.1⟩)]
  · show (if _ then gk G (skp v x) (skp v x) else 0) = 0
    split
    · exact hG.1.2.2.2 _
    · rfl
  · have hx : gn G - 1 ≤ x := hx
    show (if _ then _ else _) = 0
    rw [if_neg (by omega)]
  · have hx : gn G - 1 ≤ x := hx
    show (if _ then _ else _) = 0
    rw [if_neg (by omega)]
theorem gA_WF {G : Gr} {set col : Nat} (hG : gWF G) (hn : gn G < 7) (hc : col < 10) : gWF (gA G set col) := by
  refine ⟨⟨fun x => ?_, fun x y => ?_, fun x y => ?_, fun x => ?_⟩, ⟨by show 1 ≤ gn G + 1; omega, by show gn G + 1 ≤ 7; omega⟩, fun x hx => ?_, fun x y hx => ?_⟩
  · show (if _ then _ else _) < 10
    split
    · exact hc
    · exact hG.1.1 _
  · show (if _ then (if _ then _ else _) else if _ then (if _ then _ else _) else _) < 4
    split
    · split <;> decide
    · split
      · split <;> decide
      · exact hG.1.2.1 _ _
  · show (if x = gn G ∧ y < gn G then (if set.testBit y = true then 1 else 0) else if y = gn G ∧ x < gn G then (if set.testBit x = true then 1 else 0) else gk G x y) = (if y = gn G ∧ x < gn G then (if set.testBit x = true then 1 else 0) else if x = gn G ∧ y < gn G then (if set.testBit y = true then 1 else 0) else gk G y x)
    by_cases h : x = gn G ∧ y < gn G
    · rw [if_pos h, if_neg (show ¬ (y = gn G ∧ x < gn G) by omega), if_pos h]
    · rw [if_neg h, if_neg h, hG.1.2.2.1 x y]
  · show (if x = gn G ∧ x < gn G then _ else if x = gn G ∧ x < gn G then _ else gk G x x) = 0
    rw [if_neg (by omega), if_neg (by omega)]; exact hG.1.2.2.2 x
  · have hx : gn G + 1 ≤ x := hx
    show (if x = gn G then _ else gc G x) = 0
    rw [if_neg (by omega)]; exact hG.2.2.1 x (by omega)
  · have hx : gn G + 1 ≤ x := hx
    show (if x = gn G ∧ _ then _ else if y = gn G ∧ x < gn G then _ else gk G x y) = 0
    rw [if_neg (by omega), if_neg (by omega)]; exact hG.2.2.2 x y (by omega)
theorem gr_ext {G G' : Gr} (hG : gWF G) (hG' : gWF G') (hn : gn G = gn G') (hc : ∀ v, v < gn G → gc G v = gc G' v) (hk : ∀ a b, a < gn G → b < a → gk G a b = gk G' a b) : G = G' := by
  have h1 : gc G = gc G' := funext fun v => by
    by_cases h : v < gn G
    · exact hc v h
    · rw [hG.2.2.1 v (by omega), hG'.2.2.1 v (by omega)]
  have h2 : gk G = gk G' := funext fun a => funext fun b => by
    by_cases ha : a < gn G
    · by_cases hb : b < gn G
      · rcases Nat.lt_trichotomy b a with z | z | z
        · exact hk a b ha z
        · subst z; rw [hG.1.2.2.2, hG'.1.2.2.2]
        · rw [hG.1.2.2.1 a b, hG'.1.2.2.1 a b]; exact hk b a hb z
      · rw [hG.1.2.2.1 a b, hG'.1.2.2.1 a b, hG.2.2.2 b a (by omega), hG'.2.2.2 b a (by omega)]
    · rw [hG.2.2.2 a b (by omega), hG'.2.2.2 a b (by omega)]
  obtain ⟨n, c, k⟩ := G
  obtain ⟨n', c', k'⟩ := G'
  have hn : n = n' := hn
  have h1 : c = c' := h1
  have h2 : k = k' := h2
  rw [hn, h1, h2]
def dw (x : Nat) : Nat := 48271 * x % 2147483647
def mxs : Nat → Nat → Gr → Nat → Gr × Nat
  | 0, _, G, c => (G, c)
  | i + 1, x, G, c => if dw x % (i + 2) = i + 1 then mxs i (dw x) G c else mxs i (dw x) (gX G (i + 1) (dw x % (i + 2))) (c + 1)
theorem mxs_WF : ∀ (i x : Nat) (G : Gr) (c : Nat), gWF G → i < gn G → gWF (mxs i x G c).1 := by
  intro i
  induction i with
  | zero => intro x G c h _; exact h
  | succ i ih =>
    intro x G c h hi
    have hm : dw x % (i + 2) < i + 2 := Nat.mod_lt _ (by omega)
    show gWF (if dw x % (i + 2) = i + 1 then mxs i (dw x) G c else mxs i (dw x) (gX G (i + 1) (dw x % (i + 2))) (c + 1)).1
    split
    · exact ih _ _ _ h (by omega)
    · exact ih _ _ _ (gX_WF h hi (by omega)) (by show i < gn G; omega)
def gP (G : Gr) (v c : Nat) : Gr := (gn G, fun x => if x = v then c else gc G x, gk G)
theorem gP_WF {G : Gr} (hG : gWF G) {v c : Nat} (hv : v < gn G) (hc : c < 10) : gWF (gP G v c) := by
  obtain ⟨⟨a1, a2, a3, a4⟩, a5, a6, a7⟩ := hG
  refine ⟨⟨fun x => ?_, a2, a3, a4⟩, a5, fun x hx => ?_, a7⟩
  · show (if x = v then c else gc G x) < 10
    split
    · exact hc
    · exact a1 x
  · show (if x = v then c else gc G x) = 0
    have hx : gn G ≤ x := hx
    rw [if_neg (by omega)]; exact a6 x hx
theorem gP_s (G : Gr) (v c : Nat) : gc (gP G v c) v = c := if_pos rfl
theorem gP_n {G : Gr} {v c x : Nat} (h : x ≠ v) : gc (gP G v c) x = gc G x := if_neg h
