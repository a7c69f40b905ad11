/-! leafs: no two are one; there is one. counting by lists -/
def dfr (n : Nat) (a b : Nat → Nat) : Prop := ∃ i, i < n ∧ a i ≠ b i
theorem dfr_no {n : Nat} {a b : Nat → Nat} : ¬ dfr n a b ↔ ∀ i, i < n → a i = b i := ⟨fun h i hi => Classical.byContradiction fun z => h ⟨i, hi, z⟩, fun h ⟨i, hi, z⟩ => z (h i hi)⟩
theorem vi_inj {n : Nat} {c1 c2 : Nat → Nat} (h1 : cwf n c1 n) (h2 : cwf n c2 n) (h : ∀ j, j < n → vi c1 n j = vi c2 n j) : ∀ w, w < n → c1 w = c2 w := fun w hw => by
  have e1 := (vi_pe h1 (tg_full h1)).2 w hw
  rw [h _ (h1.1 w hw)] at e1
  have e2 := (vi_spec (h2.2 (c1 w) (h1.1 w hw))).2
  rw [e1] at e2
  exact e2.symm
/-- a leaf below a node: cells of one, in the order of the node's -/
theorem lv_ref {G : Gr} (hG : gWF G) : ∀ (k : Nat) (c : Nat → Nat) (q d : Nat) (ms : Nat → Nat), cwf (gn G) c q → ∀ l ∈ lv G k c q d ms, ∃ cl, cwf (gn G) cl (gn G) ∧ l_a l = vi cl (gn G) ∧ l_c l = cd G (l_a l) ∧ ∀ u v, u < gn G → v < gn G → c u < c v → cl u < cl v := by
  intro k
  induction k with
  | zero => intro c q d ms _ l hl; cases hl
  | succ k ih =>
    intro c q d ms hw l hl
    rw [lv_succ] at hl
    by_cases h : tg c (gn G) q = 0
    · rw [if_pos h] at hl
      rw [List.mem_singleton.mp hl]
      have hq := disc_q hw h
      exact ⟨c, by rw [hq] at hw; exact hw, rfl, rfl, fun _ _ _ _ z => z⟩
    · rw [if_neg h] at hl
      obtain ⟨v, hv, hc, hx⟩ := (it_memw (F := fun v => lv G k (nx G c q v).1 (nx G c q v).2.1 (d + 1) (msn G c q v d ms)) (gn G)).mp hl
      have hsz : 1 < cz c (gn G) (c v) := by
        have := tg_size h
        rw [← hc] at this
        simpa using this
      obtain ⟨a1, -, -, a4⟩ := rf_all hG.2.1.2 7 _ _ (ap_cwf hw hv hsz)
      obtain ⟨cl, b1, b2, b3, b4⟩ := ih _ _ _ _ a1 l hx
      exact ⟨cl, b1, b2, b3, fun x y hx hy z => b4 x y hx hy (a4 x y hx hy (ap_lt z))⟩
theorem lv_child {G : Gr} (hG : gWF G) {c : Nat → Nat} {q v : Nat} (hw : cwf (gn G) c q) (h : tg c (gn G) q ≠ 0) (hv : v < gn G) (hc : c v + 1 = tg c (gn G) q) : cwf (gn G) (nx G c q v).1 (nx G c q v).2.1 ∧ ∀ x y, x < gn G → y < gn G → ap c v x < ap c v y → (nx G c q v).1 x < (nx G c q v).1 y := by
  have hsz : 1 < cz c (gn G) (c v) := by
    have := tg_size h
    rw [← hc] at this
    simpa using this
  obtain ⟨a1, -, -, a4⟩ := rf_all hG.2.1.2 7 _ _ (ap_cwf hw hv hsz)
  exact ⟨a1, a4⟩
theorem lv_cross {G : Gr} (hG : gWF G) {k d d' : Nat} {ms ms' c : Nat → Nat} {q u v : Nat} (hw : cwf (gn G) c q) (h : tg c (gn G) q ≠ 0) (hu : u < gn G) (hv : v < gn G) (hcu : c u + 1 = tg c (gn G) q) (hcv : c v + 1 = tg c (gn G) q) (hne : u ≠ v) : ∀ l ∈ lv G k (nx G c q u).1 (nx G c q u).2.1 d ms, ∀ l' ∈ lv G k (nx G c q v).1 (nx G c q v).2.1 d' ms', dfr (gn G) (l_a l) (l_a l') := by
  have first : ∀ v u, v < gn G → u < gn G → c v + 1 = tg c (gn G) q → c u + 1 = tg c (gn G) q → u ≠ v → (nx G c q v).1 v < (nx G c q v).1 u := fun v u hv hu hc hc2 hne => (lv_child hG hw h hv hc).2 v u hv hu (by
    unfold ap
    rw [if_neg (fun z => z.1 rfl), if_pos ⟨hne, by omega⟩]
    omega)
  intro l hl l' hl'
  obtain ⟨c1, b1, b2, -, b4⟩ := lv_ref hG k _ _ _ _ (lv_child hG hw h hu hcu).1 l hl
  obtain ⟨c2, d1, d2, -, d4⟩ := lv_ref hG k _ _ _ _ (lv_child hG hw h hv hcv).1 l' hl'
  apply Classical.byContradiction
  intro hno
  have e := dfr_no.mp hno
  rw [b2, d2] at e
  have e2 := vi_inj b1 d1 e
  have x1 := b4 u v hu hv (first u v hu hv hcu hcv (fun z => hne z.symm))
  have x2 := d4 v u hv hu (first v u hv hu hcv hcu hne)
  have y1 := e2 u hu
  have y2 := e2 v hv
  omega
theorem lv_dist {G : Gr} (hG : gWF G) : ∀ (k : Nat) (c : Nat → Nat) (q d : Nat) (ms : Nat → Nat), cwf (gn G) c q → (lv G k c q d ms).Pairwise (fun l l' => dfr (gn G) (l_a l) (l_a l')) := by
  intro k
  induction k with
  | zero => intro c q d ms _; exact List.Pairwise.nil
  | succ k ih =>
    intro c q d ms hw
    rw [lv_succ]
    by_cases h : tg c (gn G) q = 0
    · rw [if_pos h]; exact List.pairwise_singleton _ _
    · rw [if_neg h]
      have key : ∀ n, n ≤ gn G → (it (fun v (x : List Lf) => if c v + 1 = tg c (gn G) q then x ++ lv G k (nx G c q v).1 (nx G c q v).2.1 (d + 1) (msn G c q v d ms) else x) n []).Pairwise (fun l l' => dfr (gn G) (l_a l) (l_a l')) := by
        intro n
        induction n with
        | zero => intro _; exact List.Pairwise.nil
        | succ n ih2 =>
          intro hn
          rw [it_succ]
          by_cases hc : c n + 1 = tg c (gn G) q
          · rw [if_pos hc]
            refine List.pairwise_append.mpr ⟨ih2 (by omega), ih _ _ _ _ (lv_child hG hw h (by omega) hc).1, fun l hl l' hl' => ?_⟩
            obtain ⟨u, hu, hcu, hx⟩ := (it_memw (F := fun v => lv G k (nx G c q v).1 (nx G c q v).2.1 (d + 1) (msn G c q v d ms)) n).mp hl
            exact lv_cross hG hw h (by omega) (by omega) hcu hc (by omega) l hx l' hl'
          · rw [if_neg hc]; exact ih2 (by omega)
      exact key (gn G) (Nat.le_refl _)
theorem lv_have {G : Gr} (hG : gWF G) : ∀ (k : Nat) (c : Nat → Nat) (q d : Nat) (ms : Nat → Nat), cwf (gn G) c q → gn G + 1 ≤ q + k → ∃ l, l ∈ lv G k c q d ms := by
  intro k
  induction k with
  | zero => intro c q d ms hw hq; have := cwf_le hw; omega
  | succ k ih =>
    intro c q d ms hw hq
    rw [lv_succ]
    by_cases h : tg c (gn G) q = 0
    · rw [if_pos h]; exact ⟨_, List.mem_singleton.mpr rfl⟩
    · rw [if_neg h]
      obtain ⟨v, hv, e⟩ := cz_pos.mp (show 0 < cz c (gn G) (tg c (gn G) q - 1) from Nat.lt_trans Nat.zero_lt_one (tg_size h))
      have hc : c v + 1 = tg c (gn G) q := by omega
      obtain ⟨a1, a2, -⟩ := nx_all hG hw hv h hc
      obtain ⟨l, hl⟩ := ih (nx G c q v).1 (nx G c q v).2.1 (d + 1) (msn G c q v d ms) a1 (by omega)
      exact ⟨l, (it_memw (F := fun v => lv G k (nx G c q v).1 (nx G c q v).2.1 (d + 1) (msn G c q v d ms)) (gn G)).mpr ⟨v, hv, hc, hl⟩⟩
theorem inj_len {R : Nat → Nat → Prop} : ∀ {A B : List Nat}, A.Nodup → (∀ x ∈ A, ∃ y ∈ B, R x y) → (∀ x x' y, R x y → R x' y → x = x') → A.length ≤ B.length := by
  intro A
  induction A with
  | nil => intro B _ _ _; exact Nat.zero_le _
  | cons x A ih =>
    intro B hn h1 h2
    obtain ⟨y, hy, hr⟩ := h1 x List.mem_cons_self
    obtain ⟨hx, hn2⟩ := List.nodup_cons.mp hn
    have := ih (B := B.erase y) hn2 (fun x' hx' => by
      obtain ⟨y', hy', hr'⟩ := h1 x' (List.mem_cons_of_mem _ hx')
      refine ⟨y', (List.mem_erase_of_ne (fun e => hx ?_)).mpr hy', hr'⟩
      subst e
      rw [h2 x x' y' hr hr']; exact hx') h2
    rw [List.length_erase_of_mem hy] at this
    have := List.length_pos_of_mem hy
    show A.length + 1 ≤ _
    omega
theorem cnt_le {α β : Type} {A : List α} {B : List β} {D : α → α → Prop} (hA : A.Pairwise D) (T : α → β → Prop) (h1 : ∀ a ∈ A, ∃ b ∈ B, T a b) (h2 : ∀ a ∈ A, ∀ a' ∈ A, ∀ b ∈ B, T a b → T a' b → ¬ D a a') : A.length ≤ B.length := by
  have h := inj_len (A := List.range A.length) (B := List.range B.length) (R := fun i j => ∃ (hi : i < A.length) (hj : j < B.length), T (A[i]) (B[j])) List.nodup_range (fun i hi => by
    have hi := List.mem_range.mp hi
    obtain ⟨b, hb, ht⟩ := h1 A[i] (List.getElem_mem hi)
    obtain ⟨j, hj, e⟩ := List.getElem_of_mem hb
    subst e
    exact ⟨j, List.mem_range.mpr hj, hi, hj, ht⟩) (fun i i' j h h' => by
    obtain ⟨hi, hj, t⟩ := h
    obtain ⟨hi', hj', t'⟩ := h'
    rcases Nat.lt_trichotomy i i' with z | z | z
    · exact absurd (List.pairwise_iff_getElem.mp hA i i' hi hi' z) (h2 _ (List.getElem_mem hi) _ (List.getElem_mem hi') _ (List.getElem_mem hj) t t')
    · exact z
    · exact absurd (List.pairwise_iff_getElem.mp hA i' i hi' hi z) (h2 _ (List.getElem_mem hi') _ (List.getElem_mem hi) _ (List.getElem_mem hj) t' t))
  rw [List.length_range, List.length_range] at h
  exact h
/-- a list by what each one of it has -/
theorem flt_sum {α : Type} {g : α → Nat} {n : Nat} : ∀ {L : List α}, (∀ a ∈ L, g a < n) → L.length = fb_sm (fun w => (L.filter (fun a => g a == w)).length) n := by
  intro L
  induction L with
  | nil => intro _; have := fb_sm_const 0 n; show 0 = fb_sm (fun _ => 0) n; omega
  | cons a L ih =>
    intro h
    have e1 : fb_sm (fun w => ((a :: L).filter (fun a => g a == w)).length) n = fb_sm (fun w => (L.filter (fun a => g a == w)).length + (if w = g a then 1 else 0)) n := fb_sm_cong fun w _ => by
      rw [List.filter_cons]
      by_cases z : g a = w
      · rw [if_pos (by simp [z]), if_pos z.symm]; rfl
      · rw [if_neg (by simp [z]), if_neg (fun y => z y.symm)]; rfl
    have e2 : fb_sm (fun w => if w = g a then 1 else 0) n = 1 := by
      have := fb_sm_upd (fun _ => 0) 1 (i := g a) (n := n) (h a List.mem_cons_self)
      rw [fb_sm_const] at this
      have e4 : fb_sm (fun k => if k = g a then 1 else 0) n + 0 = n * 0 + 1 := this
      omega
    rw [e1, fb_sm_add, e2, ← ih (fun x hx => h x (List.mem_cons_of_mem _ hx))]
    rfl
theorem sm_if {b : Nat → Bool} {K : Nat} : ∀ n, fb_sm (fun w => if b w = true then K else 0) n = fb_ct b n * K := by
  intro n
  induction n with
  | zero => show 0 = 0 * K; omega
  | succ n ih =>
    rw [fb_sm_succ, fb_ct_succ, ih, Nat.add_mul]
    split <;> omega
/-- a sum in another order -/
theorem sm_min (m : Nat) : ∀ B, fb_sm (fun j => if decide (j < m) = true then 1 else 0) B = if m < B then m else B := by
  intro B
  induction B with
  | zero => show 0 = _; split <;> omega
  | succ B ih =>
    rw [fb_sm_succ, ih]
    by_cases z : B < m
    · rw [if_pos (decide_eq_true z)]; split <;> split <;> omega
    · rw [if_neg (show ¬ decide (B < m) = true from fun y => z (of_decide_eq_true y))]
      rcases Nat.lt_or_ge m B with y | y
      · rw [if_pos y, if_pos (by omega)]; omega
      · rw [if_neg (by omega), if_pos (by omega)]; omega
theorem sm_lay (F : Nat → Nat) (B : Nat) : ∀ n, (∀ v, v < n → F v ≤ B) → fb_sm F n = fb_sm (fun j => fb_ct (fun v => decide (j < F v)) n) B := by
  intro n
  induction n with
  | zero => intro _; have := fb_sm_const 0 B; show 0 = fb_sm (fun _ => 0) B; omega
  | succ n ih =>
    intro h
    have e : fb_sm (fun j => fb_ct (fun v => decide (j < F v)) (n + 1)) B = fb_sm (fun j => fb_ct (fun v => decide (j < F v)) n + (if decide (j < F n) = true then 1 else 0)) B := fb_sm_cong fun j _ => fb_ct_succ _ _
    rw [e, fb_sm_add, ← ih (fun v hv => h v (by omega)), sm_min, fb_sm_succ]
    have := h n (by omega)
    split <;> omega
theorem sm_pe {n : Nat} {π : Nat → Nat} (h : pe n π) (F : Nat → Nat) : fb_sm (fun v => F (π v)) n = fb_sm F n := by
  have hb : ∀ v, v < n → F v ≤ fb_sm F n := fun v hv => by have := fb_sm_part F hv; omega
  exact (sm_lay (fun v => F (π v)) (fb_sm F n) n (fun v hv => hb _ (h.1 v hv))).trans ((fb_sm_cong fun j _ => ct_pe h (fun v => decide (j < F v))).trans (sm_lay F (fb_sm F n) n hb).symm)
