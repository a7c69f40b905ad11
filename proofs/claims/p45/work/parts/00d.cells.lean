/-! graphs, cells, refinement: the mathematics -/
abbrev Gr : Type := Nat × (Nat → Nat) × (Nat → Nat → Nat)
abbrev gn (G : Gr) : Nat := G.1
abbrev gc (G : Gr) : Nat → Nat := G.2.1
abbrev gk (G : Gr) : Nat → Nat → Nat := G.2.2
def gOK (G : Gr) : Prop := (∀ v, gc G v < 10) ∧ (∀ a b, gk G a b < 4) ∧ (∀ a b, gk G a b = gk G b a) ∧ ∀ a, gk G a a = 0
def gWF (G : Gr) : Prop := gOK G ∧ (1 ≤ gn G ∧ gn G ≤ 7) ∧ (∀ v, gn G ≤ v → gc G v = 0) ∧ ∀ a b, gn G ≤ a → gk G a b = 0
/-- how many vertices a cell has -/
def cz (c : Nat → Nat) (n j : Nat) : Nat := fb_ct (fun v => c v == j) n
def cwf (n : Nat) (c : Nat → Nat) (q : Nat) : Prop := (∀ v, v < n → c v < q) ∧ ∀ j, j < q → ∃ v, v < n ∧ c v = j
theorem cwf_le {n q : Nat} {c : Nat → Nat} (h : cwf n c q) : q ≤ n := by
  have key : ∀ y, ∃ i, y < q → (i < n ∧ c i = y) := fun y => by
    by_cases hy : y < q
    · obtain ⟨i, hi⟩ := h.2 y hy; exact ⟨i, fun _ => hi⟩
    · exact ⟨0, fun z => absurd z hy⟩
  obtain ⟨g, hg⟩ := Classical.axiomOfChoice key
  refine fb_holes n q g (fun i hi => (hg i hi).1) (fun i j hij hj e => ?_)
  have a := (hg i (by omega)).2
  have b := (hg j hj).2
  rw [e, b] at a
  omega
theorem cz_pos {c : Nat → Nat} {n j : Nat} : 0 < cz c n j ↔ ∃ v, v < n ∧ c v = j := by
  unfold cz; rw [fb_ct_pos]
  constructor
  · rintro ⟨k, h1, h2⟩; exact ⟨k, h1, by simpa using h2⟩
  · rintro ⟨k, h1, h2⟩; exact ⟨k, h1, by simpa using h2⟩
theorem cz_le (c : Nat → Nat) (n j : Nat) : cz c n j ≤ n := fb_ct_le _ n
/-- the digits of a sign: its cell, then how many are linked, by cell and kind -/
def dg (G : Gr) (c : Nat → Nat) (v j : Nat) : Nat := if j = 0 then c v else fb_ct (fun u => decide (0 < gk G v u) && (3 * c u + gk G v u == j)) (gn G)
def sS (G : Gr) (c : Nat → Nat) (v : Nat) : Nat := nm 8 (dg G c v) 22
theorem dg_lt {G : Gr} {c : Nat → Nat} {v : Nat} (hn : gn G ≤ 7) (hc : c v < 8) (j : Nat) : dg G c v j < 8 := by
  unfold dg
  split
  · exact hc
  · exact Nat.lt_of_le_of_lt (fb_ct_le _ _) (by omega)
theorem sS_lt {G : Gr} {c : Nat → Nat} {u v : Nat} (hn : gn G ≤ 7) (hu : c u < 8) (h : c u < c v) : sS G c u < sS G c v :=
  nm_lx (i := 0) (fun i _ => dg_lt hn hu i) (by decide) (fun j hj => absurd hj (Nat.not_lt_zero j)) (by unfold dg; rw [if_pos rfl, if_pos rfl]; exact h)
/-- a round -/
def rd (G : Gr) (c : Nat → Nat) (v : Nat) : Nat := rk (gn G) (sS G c) v
def rq (G : Gr) (c : Nat → Nat) : Nat := nr (gn G) (sS G c)
theorem rd_Dn (G : Gr) (c : Nat → Nat) : Dn (gn G) (sS G c) (rd G c) (rq G c) := rk_Dn _ _
theorem rd_cwf (G : Gr) (c : Nat → Nat) : cwf (gn G) (rd G c) (rq G c) := ⟨(rd_Dn G c).2.1, (rd_Dn G c).2.2⟩
theorem rd_lt {G : Gr} {c : Nat → Nat} {q u v : Nat} (hn : gn G ≤ 7) (hc : cwf (gn G) c q) (hu : u < gn G) (hv : v < gn G) (h : c u < c v) : rd G c u < rd G c v :=
  ((rd_Dn G c).1 u v hu hv).mpr (sS_lt hn (by have := hc.1 u hu; have := cwf_le hc; omega) h)
theorem rd_c {G : Gr} {c : Nat → Nat} {q u v : Nat} (hn : gn G ≤ 7) (hc : cwf (gn G) c q) (hu : u < gn G) (hv : v < gn G) (h : rd G c u = rd G c v) : c u = c v := by
  rcases Nat.lt_trichotomy (c u) (c v) with g | g | g
  · have := rd_lt hn hc hu hv g; omega
  · exact g
  · have := rd_lt hn hc hv hu g; omega
theorem rq_ge {G : Gr} {c : Nat → Nat} {q : Nat} (hn : gn G ≤ 7) (hc : cwf (gn G) c q) : q ≤ rq G c := by
  have key : ∀ y, ∃ i, y < q → (i < gn G ∧ c i = y) := fun y => by
    by_cases hy : y < q
    · obtain ⟨i, hi⟩ := hc.2 y hy; exact ⟨i, fun _ => hi⟩
    · exact ⟨0, fun z => absurd z hy⟩
  obtain ⟨g, hg⟩ := Classical.axiomOfChoice key
  refine fb_holes (rq G c) q (fun i => rd G c (g i)) (fun i hi => (rd_Dn G c).2.1 _ (hg i hi).1) (fun i j hij hj e => ?_)
  have e' : rd G c (g i) = rd G c (g j) := e
  have a := rd_c hn hc (hg i (by omega)).1 (hg j hj).1 e'
  rw [(hg i (by omega)).2, (hg j hj).2] at a
  omega
/-- round by round till one divides nothing: cells, how many, rounds that divided -/
def rf (G : Gr) : Nat → (Nat → Nat) → Nat → (Nat → Nat) × Nat × Nat
  | 0, c, q => (c, q, 0)
  | k + 1, c, q => if q < gn G then (if q < rq G c then ((rf G k (rd G c) (rq G c)).1, (rf G k (rd G c) (rq G c)).2.1, (rf G k (rd G c) (rq G c)).2.2 + 1) else (rd G c, rq G c, 0)) else (c, q, 0)
theorem rf_0 {G : Gr} {k : Nat} {c : Nat → Nat} {q : Nat} (h : gn G ≤ q) : rf G k c q = (c, q, 0) := by
  cases k with
  | zero => rfl
  | succ k => show (if q < gn G then _ else _) = _; rw [if_neg (by omega)]
theorem rf_1 {G : Gr} {k : Nat} {c : Nat → Nat} {q : Nat} (h : q < gn G) (h2 : q < rq G c) : rf G (k + 1) c q = ((rf G k (rd G c) (rq G c)).1, (rf G k (rd G c) (rq G c)).2.1, (rf G k (rd G c) (rq G c)).2.2 + 1) := by
  show (if q < gn G then _ else _) = _; rw [if_pos h, if_pos h2]
theorem rf_2 {G : Gr} {k : Nat} {c : Nat → Nat} {q : Nat} (h : q < gn G) (h2 : ¬ q < rq G c) : rf G (k + 1) c q = (rd G c, rq G c, 0) := by
  show (if q < gn G then _ else _) = _; rw [if_pos h, if_neg h2]
theorem rf_all {G : Gr} (hn : gn G ≤ 7) : ∀ (k : Nat) (c : Nat → Nat) (q : Nat), cwf (gn G) c q → cwf (gn G) (rf G k c q).1 (rf G k c q).2.1 ∧ q ≤ (rf G k c q).2.1 ∧ q + (rf G k c q).2.2 ≤ (rf G k c q).2.1 ∧ ∀ u v, u < gn G → v < gn G → c u < c v → (rf G k c q).1 u < (rf G k c q).1 v := by
  intro k
  induction k with
  | zero => intro c q h; exact ⟨h, Nat.le_refl _, Nat.le_refl _, fun u v _ _ h => h⟩
  | succ k ih =>
    intro c q h
    by_cases h1 : q < gn G
    · by_cases h2 : q < rq G c
      · rw [rf_1 h1 h2]
        obtain ⟨a1, a2, a3, a4⟩ := ih (rd G c) (rq G c) (rd_cwf G c)
        exact ⟨a1, Nat.le_trans (Nat.le_of_lt h2) a2, by show q + ((rf G k (rd G c) (rq G c)).2.2 + 1) ≤ (rf G k (rd G c) (rq G c)).2.1; omega, fun u v hu hv g => a4 u v hu hv (rd_lt hn h hu hv g)⟩
      · rw [rf_2 h1 h2]
        exact ⟨rd_cwf G c, rq_ge hn h, by have := rq_ge hn h; simpa using this, fun u v hu hv g => rd_lt hn h hu hv g⟩
    · rw [rf_0 (Nat.le_of_not_lt h1)]
      exact ⟨h, Nat.le_refl _, Nat.le_refl _, fun u v _ _ h => h⟩
def rfn (G : Gr) (c : Nat → Nat) (q : Nat) : (Nat → Nat) × Nat × Nat := rf G 7 c q
/-- a vertex becomes a cell alone, the others of its cell are one right behind it -/
def ap (c : Nat → Nat) (v o : Nat) : Nat := if o ≠ v ∧ c v ≤ c o then c o + 1 else c o
theorem ap_cwf {n q v : Nat} {c : Nat → Nat} (h : cwf n c q) (hv : v < n) (h2 : 1 < cz c n (c v)) : cwf n (ap c v) (q + 1) := by
  refine ⟨fun u hu => ?_, fun j hj => ?_⟩
  · unfold ap; have := h.1 u hu; split <;> omega
  · rcases Nat.lt_trichotomy j (c v) with g | g | g
    · obtain ⟨u, hu, e⟩ := h.2 j (by have := h.1 v hv; omega)
      exact ⟨u, hu, by unfold ap; rw [if_neg (by omega)]; exact e⟩
    · exact ⟨v, hv, by unfold ap; rw [if_neg (fun z => z.1 rfl)]; exact g.symm⟩
    · rcases Nat.eq_or_lt_of_le g with e | g2
      · -- another one of the cell
        have : ∃ u, u < n ∧ u ≠ v ∧ c u = c v := by
          apply Classical.byContradiction
          intro hno
          have : cz c n (c v) ≤ fb_ct (fun i => i == v) n := fb_ct_sub fun k hk hp => by
            have hp : c k = c v := by simpa using hp
            by_cases e : k = v
            · simp [e]
            · exact absurd ⟨k, hk, e, hp⟩ hno
          have e2 : fb_ct (fun i => i == v) n ≤ 1 := ct_inj (q := fun _ => true) (m := 1) (f := fun _ => 0) (fun _ _ _ => ⟨Nat.one_pos, rfl⟩) (fun i j _ _ a b _ => by
            have a : i = v := by simpa using a
            have b : j = v := by simpa using b
            omega)
          omega
        obtain ⟨u, hu, hne, e2⟩ := this
        exact ⟨u, hu, by unfold ap; rw [if_pos ⟨hne, by omega⟩]; omega⟩
      · obtain ⟨u, hu, e⟩ := h.2 (j - 1) (by omega)
        refine ⟨u, hu, ?_⟩
        unfold ap
        rw [if_pos ⟨fun z => by subst z; omega, by omega⟩]; omega
theorem ap_lt {c : Nat → Nat} {v a b : Nat} (h : c a < c b) : ap c v a < ap c v b := by
  unfold ap
  by_cases h1 : a ≠ v ∧ c v ≤ c a
  · rw [if_pos h1]
    by_cases h2 : b ≠ v ∧ c v ≤ c b
    · rw [if_pos h2]; omega
    · rw [if_neg h2]
      have : b = v := Classical.byContradiction fun e => h2 ⟨e, by omega⟩
      subst this; omega
  · rw [if_neg h1]; split <;> omega
/-- the target: 0 there is none, else its number and 1 -/
def tg (c : Nat → Nat) (n : Nat) : Nat → Nat
  | 0 => 0
  | j + 1 => if 1 < cz c n j ∧ (tg c n j = 0 ∨ cz c n j < cz c n (tg c n j - 1)) then j + 1 else tg c n j
theorem tg_succ (c : Nat → Nat) (n j : Nat) : tg c n (j + 1) = if 1 < cz c n j ∧ (tg c n j = 0 ∨ cz c n j < cz c n (tg c n j - 1)) then j + 1 else tg c n j := rfl
theorem tg_le (c : Nat → Nat) (n : Nat) : ∀ q, tg c n q ≤ q := by
  intro q
  induction q with
  | zero => exact Nat.le_refl _
  | succ q ih => rw [tg_succ]; split <;> omega
theorem tg_size {c : Nat → Nat} {n : Nat} : ∀ {q : Nat}, tg c n q ≠ 0 → 1 < cz c n (tg c n q - 1) := by
  intro q
  induction q with
  | zero => intro h; exact absurd rfl h
  | succ q ih =>
    rw [tg_succ]
    split
    · rename_i h; intro _; exact h.1
    · exact ih
theorem tg_0 {c : Nat → Nat} {n : Nat} : ∀ {q : Nat}, tg c n q = 0 → ∀ j, j < q → cz c n j ≤ 1 := by
  intro q
  induction q with
  | zero => intro _ j hj; omega
  | succ q ih =>
    rw [tg_succ]
    split
    · intro h; omega
    · rename_i h
      intro h2 j hj
      by_cases e : j = q
      · subst e
        apply Classical.byContradiction
        intro h3
        exact h ⟨by omega, Or.inl h2⟩
      · exact ih h2 j (by omega)
theorem cz_two {c : Nat → Nat} {n u v : Nat} (hu : u < n) (hv : v < n) (hne : u ≠ v) (h : c u = c v) : 1 < cz c n (c v) := by
  have e := fb_ct_upd (fun i => c i == c v) false hu
  simp [h] at e
  have : 0 < fb_ct (fun i => if i = u then false else c i == c v) n := fb_ct_pos.mpr ⟨v, hv, by rw [if_neg (Ne.symm hne)]; simp⟩
  unfold cz
  have e3 : fb_ct (fun i => if i = u then false else c i == c v) n = fb_ct (fun k => !decide (k = u) && c k == c v) n := fb_ct_cong fun k _ => by by_cases z : k = u <;> simp [z]
  omega
theorem disc_inj {c : Nat → Nat} {n q : Nat} (h : cwf n c q) (h0 : tg c n q = 0) {u v : Nat} (hu : u < n) (hv : v < n) (e : c u = c v) : u = v := by
  apply Classical.byContradiction
  intro hne
  have := cz_two hu hv hne e
  have := tg_0 h0 (c v) (h.1 v hv)
  omega
theorem disc_q {c : Nat → Nat} {n q : Nat} (h : cwf n c q) (h0 : tg c n q = 0) : q = n := by
  apply Nat.le_antisymm (cwf_le h)
  exact fb_holes q n c h.1 (fun i j hij hj e => by have := disc_inj h h0 (by omega) hj e; omega)
theorem tg_full {c : Nat → Nat} {n : Nat} (h : cwf n c n) : tg c n n = 0 := by
  apply Classical.byContradiction
  intro h0
  have h1 := tg_size h0
  have h2 := tg_le c n n
  obtain ⟨v, hv, e⟩ := h.2 (tg c n n - 1) (by omega)
  have onto : ∀ j, j < n → ∃ v, v < n ∧ c v = j := h.2
  have key : ∀ y, ∃ i, y < n → (i < n ∧ c i = y) := fun y => by
    by_cases hy : y < n
    · obtain ⟨i, hi⟩ := onto y hy; exact ⟨i, fun _ => hi⟩
    · exact ⟨0, fun z => absurd z hy⟩
  obtain ⟨g, hg⟩ := Classical.axiomOfChoice key
  have pg : pe n g := ⟨fun i hi => (hg i hi).1, fun i j hi hj e => by rw [← (hg i hi).2, ← (hg j hj).2, e]⟩
  have inj : ∀ u v, u < n → v < n → c u = c v → u = v := fun u v hu hv e => by
    obtain ⟨i, hi, ei⟩ := pe_onto pg hu
    obtain ⟨j, hj, ej⟩ := pe_onto pg hv
    rw [← ei, ← ej] at e
    rw [(hg i hi).2, (hg j hj).2] at e
    rw [← ei, ← ej, e]
  have : cz c n (tg c n n - 1) ≤ 1 := ct_inj (q := fun _ => true) (m := 1) (f := fun _ => 0) (fun _ _ _ => ⟨Nat.one_pos, rfl⟩) (fun i j hi hj a b _ => by
    have a : c i = tg c n n - 1 := by simpa using a
    have b : c j = tg c n n - 1 := by simpa using b
    exact inj i j hi hj (by omega))
  omega
/-- a cell has no more vertices than there are places left -/
theorem cz_room {c : Nat → Nat} {n q j : Nat} (h : cwf n c q) (hj : j < q) : cz c n j + q ≤ n + 1 := by
  have key : ∀ y, ∃ i, y < q → (i < n ∧ c i = y) := fun y => by
    by_cases hy : y < q
    · obtain ⟨i, hi⟩ := h.2 y hy; exact ⟨i, fun _ => hi⟩
    · exact ⟨0, fun z => absurd z hy⟩
  obtain ⟨g, hg⟩ := Classical.axiomOfChoice key
  have e1 := fb_ct_not (fun v => c v == j) n
  have e2 : fb_ct (fun k => !(k == j)) q ≤ fb_ct (fun k => !(c k == j)) n := ct_inj (f := g) (fun i hi hp => ⟨(hg i hi).1, by simp [(hg i hi).2] at hp ⊢; exact hp⟩) (fun i k hi hk _ _ e => by rw [← (hg i hi).2, ← (hg k hk).2, e])
  have e3 := fb_ct_not (fun k => k == j) q
  have e4 : fb_ct (fun k => k == j) q ≤ 1 := ct_inj (q := fun _ => true) (m := 1) (f := fun _ => 0) (fun _ _ _ => ⟨Nat.one_pos, rfl⟩) (fun i k _ _ a b _ => by
    have a : i = j := by simpa using a
    have b : k = j := by simpa using b
    omega)
  unfold cz
  omega
/-- colours -/
def oc (G : Gr) (k : Nat) : Bool := decide (0 < fb_ct (fun v => gc G v == k) (gn G))
def c0 (G : Gr) (v : Nat) : Nat := fb_ct (oc G) (gc G v)
def q0 (G : Gr) : Nat := fb_ct (oc G) 10
theorem oc_iff {G : Gr} {k : Nat} : oc G k = true ↔ ∃ v, v < gn G ∧ gc G v = k := by
  unfold oc
  rw [decide_eq_true_iff, fb_ct_pos]
  constructor
  · rintro ⟨v, h1, h2⟩; exact ⟨v, h1, by simpa using h2⟩
  · rintro ⟨v, h1, h2⟩; exact ⟨v, h1, by simpa using h2⟩
theorem c0_cwf {G : Gr} (h : gOK G) : cwf (gn G) (c0 G) (q0 G) := by
  refine ⟨fun v hv => ?_, fun j hj => ?_⟩
  · have h1 := fb_ct_mono (oc G) (show gc G v + 1 ≤ 10 from h.1 v)
    rw [fb_ct_succ, if_pos (oc_iff.mpr ⟨v, hv, rfl⟩)] at h1
    show fb_ct (oc G) (gc G v) < fb_ct (oc G) 10
    omega
  · obtain ⟨k, h1, h2, h3⟩ := fb_ct_kth hj
    obtain ⟨v, hv, e⟩ := oc_iff.mp h2
    exact ⟨v, hv, by show fb_ct (oc G) (gc G v) = j; rw [e]; exact h3⟩
def st (G : Gr) : (Nat → Nat) × Nat × Nat := rfn G (c0 G) (q0 G)
theorem st_cwf {G : Gr} (h : gWF G) : cwf (gn G) (st G).1 (st G).2.1 := (rf_all h.2.1.2 7 _ _ (c0_cwf h.1)).1
/-- a mark -/
def mrk (c : Nat → Nat) (n q r : Nat) : Nat := 10 * nm 10 (cz c n) q + r
/-- symmetries, and what they do to cells -/
def au (G : Gr) (π : Nat → Nat) : Prop := pe (gn G) π ∧ (∀ v, v < gn G → gc G (π v) = gc G v) ∧ ∀ a b, a < gn G → b < gn G → gk G (π a) (π b) = gk G a b
def ev (n : Nat) (π c1 c2 : Nat → Nat) : Prop := ∀ v, v < n → c2 v = c1 (π v)
theorem sS_ev {G : Gr} {π c1 c2 : Nat → Nat} (ha : au G π) (he : ev (gn G) π c1 c2) {v : Nat} (hv : v < gn G) : sS G c2 v = sS G c1 (π v) := by
  refine nm_cong fun j _ => ?_
  unfold dg
  split
  · exact he v hv
  · rw [← ct_pe ha.1 (fun u => decide (0 < gk G (π v) u) && (3 * c1 u + gk G (π v) u == j))]
    refine fb_ct_cong fun u hu => ?_
    rw [ha.2.2 v u hv hu, he u hu]
theorem rd_ev {G : Gr} {π c1 c2 : Nat → Nat} (ha : au G π) (he : ev (gn G) π c1 c2) : rq G c2 = rq G c1 ∧ ev (gn G) π (rd G c1) (rd G c2) := rk_pe ha.1 fun _ hv => sS_ev ha he hv
theorem rf_ev {G : Gr} {π : Nat → Nat} (ha : au G π) : ∀ (k : Nat) (c1 c2 : Nat → Nat) (q : Nat), ev (gn G) π c1 c2 → (rf G k c2 q).2 = (rf G k c1 q).2 ∧ ev (gn G) π (rf G k c1 q).1 (rf G k c2 q).1 := by
  intro k
  induction k with
  | zero => intro c1 c2 q he; exact ⟨rfl, he⟩
  | succ k ih =>
    intro c1 c2 q he
    obtain ⟨e1, e2⟩ := rd_ev ha he
    by_cases h1 : q < gn G
    · by_cases h2 : q < rq G c1
      · rw [rf_1 h1 h2, rf_1 h1 (by rw [e1]; exact h2), e1]
        obtain ⟨a, b⟩ := ih _ _ (rq G c1) e2
        exact ⟨by show ((rf G k (rd G c2) (rq G c1)).2.1, (rf G k (rd G c2) (rq G c1)).2.2 + 1) = _; rw [a], b⟩
      · rw [rf_2 h1 h2, rf_2 h1 (by rw [e1]; exact h2), e1]
        exact ⟨rfl, e2⟩
    · rw [rf_0 (Nat.le_of_not_lt h1), rf_0 (Nat.le_of_not_lt h1)]
      exact ⟨rfl, he⟩
theorem ap_ev {n v : Nat} {π c1 c2 : Nat → Nat} (hp : pe n π) (he : ev n π c1 c2) (hv : v < n) : ev n π (ap c1 (π v)) (ap c2 v) := fun o ho => by
  unfold ap
  rw [he v hv, he o ho]
  by_cases h : o = v
  · subst h
    rw [if_neg (fun z => z.1 rfl), if_neg (fun z => z.1 rfl)]
  · have : π o ≠ π v := fun e => h (hp.2 o v ho hv e)
    simp [h, this]
theorem cz_ev {n : Nat} {π c1 c2 : Nat → Nat} (hp : pe n π) (he : ev n π c1 c2) (j : Nat) : cz c2 n j = cz c1 n j := by
  unfold cz
  rw [← ct_pe hp (fun v => c1 v == j)]
  exact fb_ct_cong fun v hv => by rw [he v hv]
theorem mrk_ev {n : Nat} {π c1 c2 : Nat → Nat} (hp : pe n π) (he : ev n π c1 c2) (q r : Nat) : mrk c2 n q r = mrk c1 n q r := by
  unfold mrk
  rw [nm_cong (fun i _ => cz_ev hp he i)]
theorem tg_ev {n : Nat} {π c1 c2 : Nat → Nat} (hp : pe n π) (he : ev n π c1 c2) : ∀ q, tg c2 n q = tg c1 n q := by
  intro q
  induction q with
  | zero => rfl
  | succ q ih =>
    rw [tg_succ, tg_succ, ih, cz_ev hp he, cz_ev hp he]
theorem au_comp {G : Gr} {f g : Nat → Nat} (hf : au G f) (hg : au G g) : au G (fun i => f (g i)) := ⟨pe_comp hf.1 hg.1, fun v hv => by show gc G (f (g v)) = _; rw [hf.2.1 _ (hg.1.1 v hv), hg.2.1 v hv], fun a b ha hb => by show gk G (f (g a)) (f (g b)) = _; rw [hf.2.2 _ _ (hg.1.1 a ha) (hg.1.1 b hb), hg.2.2 a b ha hb]⟩
theorem au_id (G : Gr) : au G (fun i => i) := ⟨pe_id _, fun _ _ => rfl, fun _ _ _ _ => rfl⟩
theorem c0_ev {G : Gr} {π : Nat → Nat} (ha : au G π) : ev (gn G) π (c0 G) (c0 G) := fun v hv => by unfold c0; rw [ha.2.1 v hv]
theorem st_ev {G : Gr} {π : Nat → Nat} (ha : au G π) : ev (gn G) π (st G).1 (st G).1 := (rf_ev ha 7 _ _ _ (c0_ev ha)).2
