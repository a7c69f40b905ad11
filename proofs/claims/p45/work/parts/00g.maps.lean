/-! maps and told: what is pure of it -/
theorem bq_t {a b : Nat} (h : a = b) : (a == b) = true := beq_iff_eq.mpr h
theorem bq_f {a b : Nat} (h : a ≠ b) : (a == b) = false := beq_eq_false_iff_ne.mpr h
/-! maps of one graph to another one, and the fewest changes -/
def ups (s : Nat → Nat) (v w : Nat) (i : Nat) : Nat := if i = v then w else s i
def dff (G H : Gr) (s : Nat → Nat) (v w : Nat) : Nat := fb_ct (fun u => !(gk G u v == gk H (s u) w)) v
def cst (G H : Gr) (s : Nat → Nat) (v w : Nat) : Nat := (if gc G v = gc H w then 0 else 1) + dff G H s v w
def usd (s : Nat → Nat) (v w : Nat) : Bool := !(fb_ct (fun u => s u == w) v == 0)
def fitb (G H : Gr) (stay : Nat) (s : Nat → Nat) (v w : Nat) : Bool := !(usd s v w) && ((v == w || !(stay.testBit v)) && cst G H s v w == 0)
theorem usd_iff {s : Nat → Nat} {v w : Nat} : usd s v w = true ↔ ∃ u, u < v ∧ s u = w := by
  unfold usd
  rw [Bool.not_eq_true', beq_eq_false_iff_ne]
  constructor
  · intro h
    obtain ⟨u, h1, h2⟩ := fb_ct_pos.mp (show 0 < fb_ct (fun u => s u == w) v by omega)
    exact ⟨u, h1, by simpa using h2⟩
  · rintro ⟨u, h1, h2⟩
    have : 0 < fb_ct (fun u => s u == w) v := fb_ct_pos.mpr ⟨u, h1, bq_t h2⟩
    omega
/-- all maps that go on from s, in their order -/
def mp (G H : Gr) (stay : Nat) : Nat → Nat → (Nat → Nat) → List (Nat → Nat)
  | 0, _, s => [s]
  | k + 1, v, s => it (fun w (L : List (Nat → Nat)) => if fitb G H stay s v w = true then L ++ mp G H stay k (v + 1) (ups s v w) else L) (gn G) []
def mps (G H : Gr) (stay : Nat) : List (Nat → Nat) := if gn G = gn H then mp G H stay (gn G) 0 (fun _ => 0) else []
theorem mp_len {G H : Gr} {stay : Nat} (hn : gn G ≤ 7) : ∀ (k v : Nat) (s : Nat → Nat), (mp G H stay k v s).length ≤ 7 ^ k := by
  intro k
  induction k with
  | zero => intro v s; exact Nat.le_refl _
  | succ k ih =>
    intro v s
    have key : ∀ w, (it (fun w (L : List (Nat → Nat)) => if fitb G H stay s v w = true then L ++ mp G H stay k (v + 1) (ups s v w) else L) w []).length ≤ w * 7 ^ k := by
      intro w
      induction w with
      | zero => exact Nat.zero_le _
      | succ w ih2 =>
        rw [it_succ, Nat.succ_mul]
        split
        · rw [List.length_append]; have := ih (v + 1) (ups s v w); omega
        · exact Nat.le_trans ih2 (Nat.le_add_right _ _)
    have h1 := key (gn G)
    have h2 := Nat.mul_le_mul_right (7 ^ k) hn
    show (it _ (gn G) []).length ≤ 7 ^ (k + 1)
    rw [Nat.pow_succ, Nat.mul_comm (7 ^ k) 7]
    omega
theorem mps_len {G H : Gr} {stay : Nat} (hn : gn G ≤ 7) : (mps G H stay).length ≤ 823543 := by
  unfold mps
  split
  · have h1 := mp_len (G := G) (H := H) (stay := stay) hn (gn G) 0 (fun _ => 0)
    have h2 : 7 ^ gn G ≤ 7 ^ 7 := Nat.pow_le_pow_right (by decide) hn
    have h3 : (7 : Nat) ^ 7 = 823543 := by decide
    omega
  · exact Nat.zero_le _
/-- to which ones a list of maps sends a vertex -/
def rch (L : List (Nat → Nat)) (v : Nat) : Nat := L.foldl (fun a p => a ||| 2 ^ p v) 0
theorem rch_app (L : List (Nat → Nat)) (p : Nat → Nat) (v : Nat) : rch (L ++ [p]) v = rch L v ||| 2 ^ p v := by unfold rch; rw [List.foldl_append]; rfl
/-- the maps that leave some where they are are those of all that do -/
def lvp (n stay : Nat) (p : Nat → Nat) : Bool := fb_ct (fun k => stay.testBit k && !(p k == k)) n == 0
theorem lvp_iff {n stay : Nat} {p : Nat → Nat} : lvp n stay p = true ↔ ∀ k, k < n → stay.testBit k = true → p k = k := by
  unfold lvp
  rw [beq_iff_eq]
  constructor
  · intro h k hk hb
    apply Classical.byContradiction
    intro hne
    have : 0 < fb_ct (fun k => stay.testBit k && !(p k == k)) n := fb_ct_pos.mpr ⟨k, hk, by rw [hb, bq_f hne]; rfl⟩
    omega
  · intro h
    refine ct_0 fun k hk => ?_
    cases hb : stay.testBit k with
    | false => rfl
    | true => rw [bq_t (h k hk hb)]; rfl
theorem mp_pre {G H : Gr} {stay : Nat} : ∀ (k v : Nat) (s : Nat → Nat), ∀ p ∈ mp G H stay k v s, ∀ u, u < v → p u = s u := by
  intro k
  induction k with
  | zero => intro v s p hp u _; rw [List.mem_singleton.mp hp]
  | succ k ih =>
    intro v s p hp u hu
    have key := it_inv (f := fun w (L : List (Nat → Nat)) => if fitb G H stay s v w = true then L ++ mp G H stay k (v + 1) (ups s v w) else L) (n := gn G) (s := []) (fun _ L => ∀ p ∈ L, ∀ u, u < v → p u = s u) (fun p hp => by cases hp) (fun w L hw hL => by
      split
      · intro p hp u hu
        rcases List.mem_append.mp hp with z | z
        · exact hL p z u hu
        · rw [ih _ _ p z u (by omega)]
          unfold ups
          rw [if_neg (by omega)]
      · exact hL)
    exact key p hp u hu
theorem mp_stay {G H : Gr} {stay : Nat} : ∀ (k v : Nat) (s : Nat → Nat), v + k = gn G → (∀ u, u < v → stay.testBit u = true → s u = u) → mp G H stay k v s = (mp G H 0 k v s).filter (lvp (gn G) stay) := by
  intro k
  induction k with
  | zero =>
    intro v s hv hs
    show [s] = [s].filter _
    have : lvp (gn G) stay s = true := lvp_iff.mpr fun u hu hb => hs u (by omega) hb
    rw [List.filter_cons, if_pos this]; rfl
  | succ k ih =>
    intro v s hv hs
    have key : ∀ w, it (fun w (L : List (Nat → Nat)) => if fitb G H stay s v w = true then L ++ mp G H stay k (v + 1) (ups s v w) else L) w [] = (it (fun w (L : List (Nat → Nat)) => if fitb G H 0 s v w = true then L ++ mp G H 0 k (v + 1) (ups s v w) else L) w []).filter (lvp (gn G) stay) := by
      intro w
      induction w with
      | zero => rfl
      | succ w ih2 =>
        rw [it_succ, it_succ, ih2]
        have e0 : fitb G H 0 s v w = (!(usd s v w) && cst G H s v w == 0) := by unfold fitb; rw [Nat.zero_testBit]; simp
        by_cases h0 : fitb G H 0 s v w = true
        · rw [if_pos h0, List.filter_append]
          by_cases h1 : v = w ∨ stay.testBit v = false
          · have h2 : fitb G H stay s v w = true := by
              rw [e0] at h0
              unfold fitb
              have : (v == w || !(stay.testBit v)) = true := by
                rcases h1 with z | z
                · rw [bq_t z]; rfl
                · rw [z]; simp
              rw [this, Bool.true_and]; exact h0
            rw [if_pos h2, ih (v + 1) (ups s v w) (by omega) (fun u hu hb => ?_)]
            unfold ups
            by_cases z : u = v
            · rw [if_pos z, z]
              rcases h1 with z1 | z1
              · exact z1.symm
              · rw [z, z1] at hb; cases hb
            · rw [if_neg z]; exact hs u (by omega) hb
          · have h2 : ¬ fitb G H stay s v w = true := by
              unfold fitb
              have hb : stay.testBit v = true := by
                cases hb : stay.testBit v with
                | true => rfl
                | false => exact absurd (Or.inr hb) h1
              rw [bq_f (fun z => h1 (Or.inl z)), hb]
              simp
            rw [if_neg h2]
            have : (mp G H 0 k (v + 1) (ups s v w)).filter (lvp (gn G) stay) = [] := by
              rw [List.filter_eq_nil_iff]
              intro p hp hq
              have hb : stay.testBit v = true := by
                cases hb : stay.testBit v with
                | true => rfl
                | false => exact absurd (Or.inr hb) h1
              have e1 := lvp_iff.mp hq v (by omega) hb
              have e2 := mp_pre k (v + 1) (ups s v w) p hp v (by omega)
              unfold ups at e2
              rw [if_pos rfl] at e2
              exact h1 (Or.inl (by rw [← e1, e2]))
            rw [this, List.append_nil]
        · rw [if_neg h0]
          have h2 : ¬ fitb G H stay s v w = true := by
            intro z
            apply h0
            rw [e0]
            unfold fitb at z
            simp only [Bool.and_eq_true] at z ⊢
            exact ⟨z.1, z.2.2⟩
          rw [if_neg h2]
    exact key (gn G)
theorem mps_stay (G H : Gr) (stay : Nat) : mps G H stay = (mps G H 0).filter (lvp (gn G) stay) := by
  unfold mps
  split
  · exact mp_stay (gn G) 0 _ (Nat.zero_add _) (fun u hu => absurd hu (Nat.not_lt_zero _))
  · rfl
/-- the fewest changes: a way is left where it costs too much already -/
def wg (G H : Gr) : Nat → Nat → (Nat → Nat) → Nat → Nat → Nat
  | 0, _, _, cost, b => if b ≤ cost then b else cost
  | k + 1, v, s, cost, b => if b ≤ cost then b else it (fun w b => if usd s v w = true then b else wg G H k (v + 1) (ups s v w) (cost + cst G H s v w) b) (gn G) b
/-- the fewest of all that go on from s -/
def mc (G H : Gr) : Nat → Nat → (Nat → Nat) → Nat → Nat
  | 0, _, _, cost => cost
  | k + 1, v, s, cost => it (fun w b => if usd s v w = true then b else min b (mc G H k (v + 1) (ups s v w) (cost + cst G H s v w))) (gn G) 1000
theorem mc_ge {G H : Gr} : ∀ (k v : Nat) (s : Nat → Nat) (cost : Nat), cost ≤ 1000 → cost ≤ mc G H k v s cost := by
  intro k
  induction k with
  | zero => intro v s cost _; exact Nat.le_refl _
  | succ k ih =>
    intro v s cost hc
    refine it_inv (f := fun w b => if usd s v w = true then b else min b (mc G H k (v + 1) (ups s v w) (cost + cst G H s v w))) (n := gn G) (s := 1000) (fun _ b => cost ≤ b) hc (fun w b _ hb => ?_)
    split
    · exact hb
    · by_cases z : cost + cst G H s v w ≤ 1000
      · have := ih (v + 1) (ups s v w) _ z
        omega
      · have : ∀ (k v : Nat) (s : Nat → Nat) (c : Nat), 1000 < c → 1000 ≤ mc G H k v s c := by
          intro k
          induction k with
          | zero => intro v s c h; show 1000 ≤ c; omega
          | succ k ih3 =>
            intro v s c h
            refine it_inv (f := fun w b => if usd s v w = true then b else min b (mc G H k (v + 1) (ups s v w) (c + cst G H s v w))) (n := gn G) (s := 1000) (fun _ b => 1000 ≤ b) (Nat.le_refl _) (fun w b _ hb => ?_)
            split
            · exact hb
            · have := ih3 (v + 1) (ups s v w) (c + cst G H s v w) (by omega)
              omega
        have := this k (v + 1) (ups s v w) (cost + cst G H s v w) (by omega)
        omega
theorem wg_mc {G H : Gr} : ∀ (k v : Nat) (s : Nat → Nat) (cost b : Nat), b ≤ 1000 → wg G H k v s cost b = min b (mc G H k v s cost) := by
  intro k
  induction k with
  | zero =>
    intro v s cost b _
    show (if b ≤ cost then b else cost) = min b cost
    split <;> omega
  | succ k ih =>
    intro v s cost b hb
    by_cases h : b ≤ cost
    · have : wg G H (k + 1) v s cost b = b := by show (if _ then _ else _) = _; rw [if_pos h]
      rw [this]
      have : b ≤ mc G H (k + 1) v s cost := by
        by_cases z : cost ≤ 1000
        · have := mc_ge (G := G) (H := H) (k + 1) v s cost z; omega
        · -- all is greater than the greatest
          have : ∀ (k v : Nat) (s : Nat → Nat) (c : Nat), 1000 < c → 1000 ≤ mc G H k v s c := by
            intro k
            induction k with
            | zero => intro v s c h; show 1000 ≤ c; omega
            | succ k ih3 =>
              intro v s c h
              refine it_inv (f := fun w b => if usd s v w = true then b else min b (mc G H k (v + 1) (ups s v w) (c + cst G H s v w))) (n := gn G) (s := 1000) (fun _ b => 1000 ≤ b) (Nat.le_refl _) (fun w b _ hb => ?_)
              split
              · exact hb
              · have := ih3 (v + 1) (ups s v w) (c + cst G H s v w) (by omega)
                omega
          have := this (k + 1) v s cost (by omega)
          omega
      omega
    · have : wg G H (k + 1) v s cost b = it (fun w b => if usd s v w = true then b else wg G H k (v + 1) (ups s v w) (cost + cst G H s v w) b) (gn G) b := by show (if _ then _ else _) = _; rw [if_neg h]
      rw [this]
      have key : ∀ w, it (fun w b => if usd s v w = true then b else wg G H k (v + 1) (ups s v w) (cost + cst G H s v w) b) w b = min b (it (fun w b => if usd s v w = true then b else min b (mc G H k (v + 1) (ups s v w) (cost + cst G H s v w))) w 1000) ∧ it (fun w b => if usd s v w = true then b else min b (mc G H k (v + 1) (ups s v w) (cost + cst G H s v w))) w 1000 ≤ 1000 := by
        intro w
        induction w with
        | zero => exact ⟨by show b = min b 1000; omega, Nat.le_refl _⟩
        | succ w ih2 =>
          rw [it_succ, it_succ]
          split
          · exact ih2
          · obtain ⟨e1, e2⟩ := ih2
            rw [e1, ih _ _ _ _ (by omega)]
            constructor <;> omega
      exact (key (gn G)).1
/-- some way costs no more than all that can differ -/
theorem mc_le {G H : Gr} : ∀ (k v : Nat) (s : Nat → Nat) (cost : Nat), v + k = gn G → (∀ u, u < v → s u < gn G) → mc G H k v s cost ≤ cost + fb_sm (fun i => 1 + (v + i)) k := by
  intro k
  induction k with
  | zero => intro v s cost _ _; exact Nat.le_add_right _ _
  | succ k ih =>
    intro v s cost hv hs
    -- one that is free
    have hfree : ∃ w, w < gn G ∧ usd s v w = false := by
      apply Classical.byContradiction
      intro hno
      have all : ∀ w, ∃ u, w < gn G → (u < v ∧ s u = w) := fun w => by
        by_cases hw : w < gn G
        · have : usd s v w = true := by
            cases h : usd s v w with
            | true => rfl
            | false => exact absurd ⟨w, hw, h⟩ hno
          obtain ⟨u, h1, h2⟩ := usd_iff.mp this
          exact ⟨u, fun _ => ⟨h1, h2⟩⟩
        · exact ⟨0, fun h => absurd h hw⟩
      obtain ⟨f, hf⟩ := Classical.axiomOfChoice all
      have := fb_holes v (gn G) f (fun i hi => (hf i hi).1) (fun i j hij hj e => by
        have a := (hf i (by omega)).2
        have b := (hf j hj).2
        rw [e, b] at a
        omega)
      omega
    obtain ⟨w0, hw0, hu0⟩ := hfree
    have hc : cst G H s v w0 ≤ 1 + v := by
      unfold cst dff
      have := fb_ct_le (fun u => !(gk G u v == gk H (s u) w0)) v
      split <;> omega
    have h1 := ih (v + 1) (ups s v w0) (cost + cst G H s v w0) (by omega) (fun u hu => by
      unfold ups
      by_cases z : u = v
      · rw [if_pos z]; exact hw0
      · rw [if_neg z]; exact hs u (by omega))
    have key : ∀ w, w0 < w → it (fun w b => if usd s v w = true then b else min b (mc G H k (v + 1) (ups s v w) (cost + cst G H s v w))) w 1000 ≤ mc G H k (v + 1) (ups s v w0) (cost + cst G H s v w0) := by
      intro w
      induction w with
      | zero => intro h; omega
      | succ w ih2 =>
        intro h
        rw [it_succ]
        by_cases z : w = w0
        · subst z
          rw [if_neg (by rw [hu0]; decide)]
          omega
        · have := ih2 (by omega)
          split <;> omega
    have h2 := key (gn G) hw0
    have h3 : fb_sm (fun i => 1 + (v + i)) (k + 1) = (1 + v) + fb_sm (fun i => 1 + (v + 1 + i)) k := by
      have := fb_sm_split (fun i => 1 + (v + i)) 1 k
      rw [Nat.add_comm 1 k] at this
      rw [this]
      have e1 : fb_sm (fun i => 1 + (v + i)) 1 = 1 + v := by show 0 + (1 + (v + 0)) = _; omega
      rw [e1]
      congr 1
      exact fb_sm_cong fun i _ => by omega
    show it _ (gn G) 1000 ≤ _
    rw [h3]
    omega
def chg (G H : Gr) : Nat := mc G H (gn G) 0 (fun _ => 0) 0
theorem chg_le {G H : Gr} (hn : gn G ≤ 7) : chg G H ≤ 28 := by
  have h := mc_le (G := G) (H := H) (gn G) 0 (fun _ => 0) 0 (Nat.zero_add _) (fun u hu => absurd hu (Nat.not_lt_zero _))
  have key : ∀ n, n ≤ 7 → fb_sm (fun i => 1 + (0 + i)) n ≤ 28 := by decide +kernel
  have := key (gn G) hn
  unfold chg
  omega
theorem wg_chg {G H : Gr} (hn : gn G ≤ 7) {b : Nat} (h1 : 28 ≤ b) (h2 : b ≤ 1000) : wg G H (gn G) 0 (fun _ => 0) 0 b = chg G H := by
  rw [wg_mc _ _ _ _ _ h2]
  have := chg_le (G := G) (H := H) hn
  unfold chg at this ⊢
  omega
theorem or_128 {a b : Nat} (ha : a < 128) (hb : b < 128) : a ||| b < 128 := Nat.or_lt_two_pow (n := 7) ha hb
theorem p2_7 {v : Nat} (h : v < 7) : 2 ^ v < 128 := Nat.pow_lt_pow_right (n := 7) (by decide) h
theorem rch_lt {L : List (Nat → Nat)} {v : Nat} (h : ∀ p ∈ L, p v < 7) : rch L v < 128 := by
  have key : ∀ (L : List (Nat → Nat)) (a : Nat), a < 128 → (∀ p ∈ L, p v < 7) → L.foldl (fun a p => a ||| 2 ^ p v) a < 128 := by
    intro L
    induction L with
    | nil => intro a h _; exact h
    | cons p L ih => intro a h h2; exact ih _ (or_128 h (p2_7 (h2 p List.mem_cons_self))) (fun q hq => h2 q (List.mem_cons_of_mem _ hq))
  exact key L 0 (by decide) h
theorem mp_lt {G H : Gr} {stay : Nat} (hn : gn G ≤ 7) : ∀ (k v : Nat) (s : Nat → Nat), (∀ u, u < v → s u < 7) → v + k = gn G → ∀ p ∈ mp G H stay k v s, ∀ u, u < gn G → p u < 7 := by
  intro k
  induction k with
  | zero => intro v s hs hv p hp u hu; rw [List.mem_singleton.mp hp]; exact hs u (by omega)
  | succ k ih =>
    intro v s hs hv p hp u hu
    have key := it_inv (f := fun w (L : List (Nat → Nat)) => if fitb G H stay s v w = true then L ++ mp G H stay k (v + 1) (ups s v w) else L) (n := gn G) (s := []) (fun _ L => ∀ p ∈ L, ∀ u, u < gn G → p u < 7) (fun p hp => by cases hp) (fun w L hw hL => by
      split
      · intro p hp u hu
        rcases List.mem_append.mp hp with z | z
        · exact hL p z u hu
        · refine ih _ _ (fun u hu => ?_) (by omega) p z u hu
          unfold ups
          by_cases q : u = v
          · rw [if_pos q]; omega
          · rw [if_neg q]; exact hs u (by omega)
      · exact hL)
    exact key p hp u hu
theorem wg_le {G H : Gr} {k v : Nat} {s : Nat → Nat} {cost b : Nat} (hb : b ≤ 1000) : wg G H k v s cost b ≤ b := by
  rw [wg_mc _ _ _ _ _ hb]; omega
def orbs (n : Nat) (L : List (Nat → Nat)) : Nat := fb_ct (fun v => rch L v % 2 ^ v == 0) n
def stls (n : Nat) (L : List (Nat → Nat)) : Nat := fb_ct (fun v => rch L v == 2 ^ v) n
theorem mps_lt {G H : Gr} {stay : Nat} (hn : gn G ≤ 7) : ∀ p ∈ mps G H stay, ∀ v, v < gn G → p v < 7 := by
  intro p hp
  unfold mps at hp
  split at hp
  · exact mp_lt hn (gn G) 0 (fun _ => 0) (fun _ _ => by decide) (Nat.zero_add _) p hp
  · cases hp
def pa (c : Nat → Nat) (n v : Nat) : Nat → Nat := if 1 < cz c n (c v) then ap c v else c
def paq (c : Nat → Nat) (n v q : Nat) : Nat := if 1 < cz c n (c v) then q + 1 else q
