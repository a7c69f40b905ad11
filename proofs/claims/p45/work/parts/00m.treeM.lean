/-! the tree's numbers, the search's numbers, generators -/
def lvs0 (G : Gr) : List Lf := lv G 7 (st G).1 (st G).2.1 0 (ms0 G)
def nn (G : Gr) : Nat → (Nat → Nat) → Nat → Nat
  | 0, _, _ => 0
  | k + 1, c, q => if tg c (gn G) q = 0 then 1 else 1 + fb_sm (fun v => if c v + 1 = tg c (gn G) q then nn G k (nx G c q v).1 (nx G c q v).2.1 else 0) (gn G)
theorem nn_iso {G H : Gr} {π : Nat → Nat} (ha : iso G H π) : ∀ (k : Nat) (c1 c2 : Nat → Nat) (q : Nat), ev (gn G) π c1 c2 → nn G k c2 q = nn H k c1 q := by
  intro k
  induction k with
  | zero => intro c1 c2 q _; rfl
  | succ k ih =>
    intro c1 c2 q he
    show (if _ then _ else _) = (if _ then _ else _)
    rw [tg_iso ha he q]
    by_cases h : tg c1 (gn H) q = 0
    · rw [if_pos h, if_pos h]
    · rw [if_neg h, if_neg h, ← ha.1, ← sm_pe ha.2.1 (fun v => if c1 v + 1 = tg c1 (gn G) q then nn H k (nx H c1 q v).1 (nx H c1 q v).2.1 else 0)]
      congr 1
      refine fb_sm_cong fun v hv => ?_
      obtain ⟨e1, e2⟩ := nx_iso ha he q hv
      rw [he v hv]
      by_cases z : c1 (π v) + 1 = tg c1 (gn G) q
      · rw [if_pos z, if_pos z, ih _ _ _ e2, e1]
      · rw [if_neg z, if_neg z]
theorem tl_n (l : Lf) (s : TS) : t_n (tl l s) = t_n s := by unfold tl; split <;> (try split) <;> rfl
theorem tw_n (G : Gr) : ∀ (k : Nat) (c : Nat → Nat) (q d : Nat) (ms : Nat → Nat) (s : TS), t_n (tw G k c q d ms s) = t_n s + nn G k c q := by
  intro k
  induction k with
  | zero => intro c q d ms s; rfl
  | succ k ih =>
    intro c q d ms s
    show t_n (if _ then _ else _) = t_n s + (if _ then _ else _)
    by_cases h : tg c (gn G) q = 0
    · rw [if_pos h, if_pos h, tl_n]; rfl
    · rw [if_neg h, if_neg h]
      have key : ∀ v, t_n (it (fun v (x : TS) => if c v + 1 = tg c (gn G) q then tw G k (nx G c q v).1 (nx G c q v).2.1 (d + 1) (msn G c q v d ms) x else x) v (ts_n s)) = t_n s + (1 + fb_sm (fun v => if c v + 1 = tg c (gn G) q then nn G k (nx G c q v).1 (nx G c q v).2.1 else 0) v) := by
        intro v
        induction v with
        | zero => rfl
        | succ v ih2 =>
          rw [it_succ, fb_sm_succ]
          by_cases z : c v + 1 = tg c (gn G) q
          · rw [if_pos z, if_pos z, ih, ih2]; omega
          · rw [if_neg z, if_neg z, ih2]; omega
      exact key (gn G)
theorem tree_n (G : Gr) : t_n (tree G) = nn G 7 (st G).1 (st G).2.1 := by
  unfold tree
  rw [tw_n]
  exact Nat.zero_add _
theorem tree_n_iso {G H : Gr} {π : Nat → Nat} (ha : iso G H π) : t_n (tree G) = t_n (tree H) := by
  obtain ⟨e1, e2⟩ := st_iso ha
  rw [tree_n, tree_n, nn_iso ha 7 _ _ _ e2, e1]
theorem ms0_iso {G H : Gr} {π : Nat → Nat} (ha : iso G H π) : ms0 G = ms0 H := funext fun i => by
  obtain ⟨e1, e2⟩ := st_iso ha
  unfold ms0
  rw [e1, mrk_iso ha e2]
/-- what the leafs make of the tree's state -/
theorem tl_2 (l : Lf) (s : TS) (x : Nat) : (tl l s).2 = (tl l (x, s.2)).2 := by unfold tl; split <;> (try split) <;> rfl
theorem tw_2 (G : Gr) : ∀ (k : Nat) (c : Nat → Nat) (q d : Nat) (ms : Nat → Nat) (s : TS), (tw G k c q d ms s).2 = (lv G k c q d ms).foldl (fun x l => (tl l (0, x)).2) s.2 := by
  intro k
  induction k with
  | zero => intro c q d ms s; rfl
  | succ k ih =>
    intro c q d ms s
    rw [lv_succ]
    show (if _ then _ else _ : TS).2 = _
    by_cases h : tg c (gn G) q = 0
    · rw [if_pos h, if_pos h]
      exact tl_2 _ _ 0
    · rw [if_neg h, if_neg h]
      have key : ∀ v, (it (fun v (x : TS) => if c v + 1 = tg c (gn G) q then tw G k (nx G c q v).1 (nx G c q v).2.1 (d + 1) (msn G c q v d ms) x else x) v (ts_n s)).2 = (it (fun v (x : List Lf) => if c v + 1 = tg c (gn G) q then x ++ lv G k (nx G c q v).1 (nx G c q v).2.1 (d + 1) (msn G c q v d ms) else x) v []).foldl (fun x l => (tl l (0, x)).2) s.2 := by
        intro v
        induction v with
        | zero => rfl
        | succ v ih2 =>
          rw [it_succ, it_succ]
          by_cases z : c v + 1 = tg c (gn G) q
          · rw [if_pos z, if_pos z, ih, ih2, List.foldl_append]
          · rw [if_neg z, if_neg z, ih2]
      exact key (gn G)
/-- the state behind some leafs: how many, the least, how many are like it -/
def tin (L : List Lf) (s : Nat × Nat × Nat × Lf) : Prop := s.1 = L.length ∧ (L ≠ [] → s.2.2.2 ∈ L ∧ (∀ l ∈ L, ky s.2.2.2 ≤ ky l) ∧ s.2.2.1 = (L.filter (fun l => ky l == ky s.2.2.2)).length)
theorem tin_step {L : List Lf} {s : Nat × Nat × Nat × Lf} (h : tin L s) (l : Lf) : tin (L ++ [l]) (tl l (0, s)).2 := by
  obtain ⟨h1, h2⟩ := h
  obtain ⟨a, b, k, t⟩ := s
  have h1 : a = L.length := h1
  have h2 : L ≠ [] → t ∈ L ∧ (∀ l ∈ L, ky t ≤ ky l) ∧ k = (L.filter (fun l => ky l == ky t)).length := h2
  have len : (L ++ [l]).length = L.length + 1 := by rw [List.length_append]; rfl
  unfold tl
  show tin _ (if a = 0 ∨ ky l < ky t then _ else _ : TS).2
  by_cases z : a = 0 ∨ ky l < ky t
  · rw [if_pos z]
    have low : ∀ x ∈ L, ky l < ky x := fun x hx => by
      rcases z with z | z
      · have := List.length_pos_of_mem hx; omega
      · have := (h2 (List.ne_nil_of_mem hx)).2.1 x hx; omega
    refine ⟨by show a + 1 = _; omega, fun _ => ⟨List.mem_append_right _ (List.mem_singleton.mpr rfl), fun x hx => ?_, ?_⟩⟩
    · show ky l ≤ ky x
      rcases List.mem_append.mp hx with y | y
      · exact Nat.le_of_lt (low x y)
      · rw [List.mem_singleton.mp y]; exact Nat.le_refl _
    · show 1 = ((L ++ [l]).filter (fun x => ky x == ky l)).length
      have e : L.filter (fun x => ky x == ky l) = [] := List.filter_eq_nil_iff.mpr fun x hx y => by
        have y : ky x = ky l := by simpa using y
        have := low x hx
        omega
      rw [List.filter_append, e]
      simp
  · rw [if_neg z]
    have ha : a ≠ 0 := fun y => z (Or.inl y)
    have hl : ¬ ky l < ky t := fun y => z (Or.inr y)
    have hne : L ≠ [] := fun y => by rw [y] at h1; exact ha h1
    obtain ⟨m1, m2, m3⟩ := h2 hne
    by_cases y : ky l = ky t
    · show tin _ (if ky l = ky t then _ else _ : TS).2
      rw [if_pos y]
      refine ⟨by show a + 1 = _; omega, fun _ => ⟨List.mem_append_left _ m1, fun x hx => ?_, ?_⟩⟩
      · show ky t ≤ ky x
        rcases List.mem_append.mp hx with w | w
        · exact m2 x w
        · rw [List.mem_singleton.mp w]; omega
      · show k + 1 = ((L ++ [l]).filter (fun x => ky x == ky t)).length
        rw [List.filter_append, List.length_append, ← m3]
        simp [y]
    · show tin _ (if ky l = ky t then _ else _ : TS).2
      rw [if_neg y]
      refine ⟨by show a + 1 = _; omega, fun _ => ⟨List.mem_append_left _ m1, fun x hx => ?_, ?_⟩⟩
      · show ky t ≤ ky x
        rcases List.mem_append.mp hx with w | w
        · exact m2 x w
        · rw [List.mem_singleton.mp w]; omega
      · show k = ((L ++ [l]).filter (fun x => ky x == ky t)).length
        rw [List.filter_append, List.length_append, ← m3]
        simp [y]
theorem tin_all (B : List Lf) : ∀ (A : List Lf) (s : Nat × Nat × Nat × Lf), tin A s → tin (A ++ B) (B.foldl (fun x l => (tl l (0, x)).2) s) := by
  induction B with
  | nil => intro A s h; rw [List.append_nil]; exact h
  | cons l B ih =>
    intro A s h
    have := ih (A ++ [l]) _ (tin_step h l)
    rw [List.append_assoc] at this
    exact this
theorem tree_in (G : Gr) : tin (lvs0 G) (tree G).2 := by
  have e := tw_2 G 7 (st G).1 (st G).2.1 0 (ms0 G) ts0
  have := tin_all (lvs0 G) [] ts0.2 ⟨rfl, fun z => absurd rfl z⟩
  unfold tree
  rw [e]
  exact this
theorem st_q {G : Gr} (hG : gWF G) : 1 ≤ (st G).2.1 := by
  have h := st_cwf hG
  have := h.1 0 (by have := hG.2.1.1; omega)
  omega
theorem lvs0_ne {G : Gr} (hG : gWF G) : lvs0 G ≠ [] := by
  obtain ⟨l, hl⟩ := lv_have hG 7 _ _ 0 (ms0 G) (st_cwf hG) (by have := st_q hG; have := hG.2.1.2; omega)
  exact List.ne_nil_of_mem hl
theorem lvs0_wf {G : Gr} (hG : gWF G) {l : Lf} (hl : l ∈ lvs0 G) : pe (gn G) (l_a l) ∧ l_c l = cd G (l_a l) := by
  obtain ⟨cl, a, b, c, -⟩ := lv_ref hG 7 _ _ _ _ (st_cwf hG) l hl
  exact ⟨by rw [b]; exact (vi_pe a (tg_full a)).1, c⟩
theorem lvs0_iso {G H : Gr} (hH : gWF H) {π : Nat → Nat} (ha : iso G H π) : ∀ l ∈ lvs0 H, ∃ l' ∈ lvs0 G, ky l' = ky l ∧ ∀ j, j < gn G → l_a l j = π (l_a l' j) := by
  obtain ⟨e1, e2⟩ := st_iso ha
  have := lv_iso hH ha 7 _ _ (st H).2.1 0 (ms0 H) (st_cwf hH) e2
  unfold lvs0
  rw [e1, ms0_iso ha]
  exact this
/-- two leafs that are like one another come by a symmetry -/
theorem like_au {G : Gr} (hG : gWF G) {l b : Lf} (hl : l ∈ lvs0 G) (hb : b ∈ lvs0 G) (e : ky l = ky b) : ∃ f, au G f ∧ ∀ j, j < gn G → l_a l j = f (l_a b j) := by
  obtain ⟨p1, c1⟩ := lvs0_wf hG hl
  obtain ⟨p2, c2⟩ := lvs0_wf hG hb
  obtain ⟨x1, x2⟩ := cdl_eq hG.1 (ky_code hG c1 c2 e)
  obtain ⟨g, g0, g1, g2⟩ := pe_inv p2
  refine ⟨fun i => l_a l (g i), ⟨pe_comp p1 g0, fun v hv => ?_, fun x y hx hy => ?_⟩, fun j hj => by show _ = l_a l (g (l_a b j)); rw [g1 j hj]⟩
  · show gc G (l_a l (g v)) = _
    rw [x1 _ (g0.1 v hv), g2 v hv]
  · show gk G (l_a l (g x)) (l_a l (g y)) = _
    rw [x2 _ _ (g0.1 x hx) (g0.1 y hy), g2 x hx, g2 y hy]
theorem like_cnt {G : Gr} (hG : gWF G) {b : Lf} (hb : b ∈ lvs0 G) : ((lvs0 G).filter (fun l => ky l == ky b)).length = (mps G G 0).length := by
  have hpb := (lvs0_wf hG hb).1
  have hdist : (lvs0 G).Pairwise (fun l l' => dfr (gn G) (l_a l) (l_a l')) := lv_dist hG 7 _ _ _ _ (st_cwf hG)
  apply Nat.le_antisymm
  · refine cnt_le (List.Pairwise.filter _ hdist) (fun l p => ∀ j, j < gn G → l_a l j = p (l_a b j)) (fun l hl => ?_) (fun l hl l' hl' p _ e1 e2 => dfr_no.mpr fun i hi => by rw [e1 i hi, e2 i hi])
    obtain ⟨h1, h2⟩ := List.mem_filter.mp hl
    have h2 : ky l = ky b := by simpa using h2
    obtain ⟨f, f1, f2⟩ := like_au hG h1 hb h2
    obtain ⟨p, p1, p2⟩ := mps_all (iso_au.mp f1) (sty_0 _ _)
    exact ⟨p, p1, fun j hj => by rw [f2 j hj, p2 _ (hpb.1 j hj)]⟩
  · refine cnt_le mps_dist (fun p l => ∀ j, j < gn G → l_a l j = p (l_a b j)) (fun p hp => ?_) (fun p hp q hq l _ e1 e2 => ?_)
    · have hp1 := (mps_sound hG hG hp).1
      obtain ⟨ρ, r0, r1, r2⟩ := iso_sym hp1
      obtain ⟨l, l1, l2, l3⟩ := lvs0_iso hG r0 b hb
      refine ⟨l, List.mem_filter.mpr ⟨l1, by simpa using l2⟩, fun j hj => ?_⟩
      have hl := (lvs0_wf hG l1).1.1 j hj
      rw [l3 j hj, r2 _ hl]
    · refine dfr_no.mpr fun i hi => ?_
      obtain ⟨j, hj, e⟩ := pe_onto hpb hi
      rw [← e, ← e1 j hj, ← e2 j hj]
theorem tree_like {G : Gr} (hG : gWF G) : t_k (tree G) = (mps G G 0).length := by
  obtain ⟨-, h2⟩ := tree_in G
  obtain ⟨m1, -, m3⟩ := h2 (lvs0_ne hG)
  exact m3.trans (like_cnt hG m1)
theorem tree_lvn (G : Gr) : t_l (tree G) = (lvs0 G).length := (tree_in G).1
/-- the search: its best is the first of the least -/
theorem nin_st {G : Gr} (hG : gWF G) : nin G (st G).1 (st G).2.1 0 (ms0 G) 0 := by
  have h := rf_all hG.2.1.2 7 _ _ (c0_cwf hG.1)
  have h2 := cwf_le (st_cwf hG)
  refine ⟨st_cwf hG, st_q hG, fun i => ?_, fun π ha _ => st_ev ha⟩
  unfold ms0
  split
  · refine mrk_lt hG.2.1.2 (by have := hG.2.1.2; omega) ?_
    have a3 : q0 G + (st G).2.2 ≤ (st G).2.1 := h.2.2.1
    have := hG.2.1.2
    omega
  · decide
theorem gin_0 (G : Gr) : gin G ss0 := ⟨fun _ => rfl, fun g hg => (by cases hg), fun h => absurd rfl h⟩
theorem srch_top {G : Gr} (hG : gWF G) : gin G (srch G) ∧ sob (srch G) = fLm none (lvs0 G) := sw_best hG 7 _ _ _ _ _ _ (nin_st hG) (gin_0 G)
theorem fLm_mem : ∀ (L : List Lf) (o : Option Lf) (b : Lf), fLm o L = some b → o = some b ∨ b ∈ L := by
  intro L
  induction L with
  | nil => intro o b h; exact Or.inl h
  | cons l L ih =>
    intro o b h
    rcases ih (fL1 o l) b h with e | e
    · cases o with
      | none => cases e; exact Or.inr List.mem_cons_self
      | some x =>
        have e : (if ky l < ky x then some l else some x) = some b := e
        split at e
        · cases e; exact Or.inr List.mem_cons_self
        · cases e; exact Or.inl rfl
    · exact Or.inr (List.mem_cons_of_mem _ e)
theorem srch_t {G : Gr} (hG : gWF G) : S_l (srch G) ≠ 0 ∧ S_t (srch G) ∈ lvs0 G ∧ ∀ l ∈ lvs0 G, ky (S_t (srch G)) ≤ ky l := by
  obtain ⟨-, h⟩ := srch_top hG
  obtain ⟨l0, hl0⟩ := List.exists_mem_of_ne_nil _ (lvs0_ne hG)
  obtain ⟨b, hb, -⟩ := (fLm_le (lvs0 G) none).1 l0 hl0
  have e : S_l (srch G) ≠ 0 ∧ S_t (srch G) = b := by
    rw [hb] at h
    unfold sob at h
    by_cases z : S_l (srch G) = 0
    · rw [if_pos z] at h; cases h
    · rw [if_neg z] at h; cases h; exact ⟨z, rfl⟩
  refine ⟨e.1, ?_, fun l hl => ?_⟩
  · rw [e.2]
    rcases fLm_mem _ _ _ hb with x | x
    · cases x
    · exact x
  · obtain ⟨b', hb', hk⟩ := (fLm_le (lvs0 G) none).1 l hl
    rw [hb] at hb'
    cases hb'
    rw [e.2]; exact hk
/-- like graphs have one name -/
theorem name_iso {G H : Gr} (hG : gWF G) (hH : gWF H) {π : Nat → Nat} (ha : iso G H π) : ∀ i, i < 28 → l_c (S_t (srch G)) i = l_c (S_t (srch H)) i := by
  obtain ⟨-, g1, g2⟩ := srch_t hG
  obtain ⟨-, h1, h2⟩ := srch_t hH
  obtain ⟨l', a1, a2, -⟩ := lvs0_iso hH ha _ h1
  obtain ⟨ρ, r0, -, -⟩ := iso_sym ha
  obtain ⟨l2, b1, b2, -⟩ := lvs0_iso hG r0 _ g1
  have e : ky (S_t (srch G)) = ky (S_t (srch H)) := by
    have := g2 _ a1
    have := h2 _ b1
    omega
  have c1 := (lvs0_wf hG g1).2
  have c2 := (lvs0_wf hH h1).2
  have k1 : ∀ i, l_c (S_t (srch G)) i < 10 := fun i => by rw [c1]; exact cd_lt hG.1 _ _
  have k2 : ∀ i, l_c (S_t (srch H)) i < 10 := fun i => by rw [c2]; exact cd_lt hH.1 _ _
  have n1 : nm 10 (l_c (S_t (srch G))) 28 < 10 ^ 28 := nm_lt fun i _ => k1 i
  have n2 : nm 10 (l_c (S_t (srch H))) 28 < 10 ^ 28 := nm_lt fun i _ => k2 i
  have e2 : nm 10 (l_c (S_t (srch G))) 28 = nm 10 (l_c (S_t (srch H))) 28 := by
    have := congrArg (fun z => z % 10 ^ 28) e
    unfold ky at this
    simp only [Nat.mul_add_mod_self_right] at this
    rw [Nat.mod_eq_of_lt n1, Nat.mod_eq_of_lt n2] at this
    exact this
  exact nm_inj (fun i _ => k1 i) (fun i _ => k2 i) e2
