/-! graphs that are alike: cells, trees, names -/
def iso (G H : Gr) (π : Nat → Nat) : Prop := gn G = gn H ∧ pe (gn G) π ∧ (∀ v, v < gn G → gc H (π v) = gc G v) ∧ ∀ a b, a < gn G → b < gn G → gk H (π a) (π b) = gk G a b
theorem iso_au {G : Gr} {π : Nat → Nat} : au G π ↔ iso G G π := ⟨fun h => ⟨rfl, h⟩, fun h => h.2⟩
theorem iso_id (G : Gr) : iso G G (fun i => i) := iso_au.mp (au_id G)
theorem iso_comp {G H K : Gr} {f g : Nat → Nat} (hf : iso G H f) (hg : iso H K g) : iso G K (fun i => g (f i)) := by
  obtain ⟨n1, p1, c1, k1⟩ := hf
  obtain ⟨n2, p2, c2, k2⟩ := hg
  refine ⟨n1.trans n2, pe_comp (by rw [n1]; exact p2) p1, fun v hv => ?_, fun a b ha hb => ?_⟩
  · show gc K (g (f v)) = _
    rw [c2 _ (by rw [← n1]; exact p1.1 v hv), c1 v hv]
  · show gk K (g (f a)) (g (f b)) = _
    rw [k2 _ _ (by rw [← n1]; exact p1.1 a ha) (by rw [← n1]; exact p1.1 b hb), k1 a b ha hb]
theorem iso_sym {G H : Gr} {f : Nat → Nat} (h : iso G H f) : ∃ g, iso H G g ∧ (∀ i, i < gn G → g (f i) = i) ∧ ∀ i, i < gn G → f (g i) = i := by
  obtain ⟨n1, p1, c1, k1⟩ := h
  obtain ⟨g, pg, g1, g2⟩ := pe_inv p1
  refine ⟨g, ⟨n1.symm, by rw [← n1]; exact pg, fun v hv => ?_, fun a b ha hb => ?_⟩, g1, g2⟩
  · rw [← n1] at hv
    rw [← c1 _ (pg.1 v hv), g2 v hv]
  · rw [← n1] at ha hb
    rw [← k1 _ _ (pg.1 a ha) (pg.1 b hb), g2 a ha, g2 b hb]
theorem iso_cong {G H : Gr} {f g : Nat → Nat} (h : iso G H f) (e : ∀ i, i < gn G → g i = f i) : iso G H g := ⟨h.1, ⟨fun i hi => by rw [e i hi]; exact h.2.1.1 i hi, fun i j hi hj z => h.2.1.2 i j hi hj (by rw [← e i hi, ← e j hj]; exact z)⟩, fun v hv => by rw [e v hv]; exact h.2.2.1 v hv, fun a b ha hb => by rw [e a ha, e b hb]; exact h.2.2.2 a b ha hb⟩
theorem cc_iso {G H : Gr} {π : Nat → Nat} (h : iso G H π) (k : Nat) : fb_ct (fun v => gc G v == k) (gn G) = fb_ct (fun v => gc H v == k) (gn H) := by
  rw [← h.1, ← ct_pe h.2.1 (fun v => gc H v == k)]
  exact fb_ct_cong fun v hv => by rw [h.2.2.1 v hv]
theorem oc_iso {G H : Gr} {π : Nat → Nat} (h : iso G H π) : oc G = oc H := funext fun k => by unfold oc; rw [cc_iso h k]
theorem q0_iso {G H : Gr} {π : Nat → Nat} (h : iso G H π) : q0 G = q0 H := by unfold q0; rw [oc_iso h]
theorem c0_iso {G H : Gr} {π : Nat → Nat} (h : iso G H π) : ev (gn G) π (c0 H) (c0 G) := fun v hv => by unfold c0; rw [oc_iso h, h.2.2.1 v hv]
theorem sS_iso {G H : Gr} {π c1 c2 : Nat → Nat} (ha : iso G H π) (he : ev (gn G) π c1 c2) {v : Nat} (hv : v < gn G) : sS G c2 v = sS H c1 (π v) := by
  refine nm_cong fun j _ => ?_
  unfold dg
  split
  · exact he v hv
  · rw [← ha.1, ← ct_pe ha.2.1 (fun u => decide (0 < gk H (π v) u) && (3 * c1 u + gk H (π v) u == j))]
    refine fb_ct_cong fun u hu => ?_
    rw [ha.2.2.2 v u hv hu, he u hu]
theorem rd_iso {G H : Gr} {π c1 c2 : Nat → Nat} (ha : iso G H π) (he : ev (gn G) π c1 c2) : rq G c2 = rq H c1 ∧ ev (gn G) π (rd H c1) (rd G c2) := by
  have h := rk_pe ha.2.1 fun _ hv => sS_iso ha he hv
  have e1 : rq H c1 = nr (gn G) (sS H c1) := by unfold rq; rw [ha.1]
  have e2 : rd H c1 = rk (gn G) (sS H c1) := funext fun v => by unfold rd; rw [ha.1]
  rw [e1, e2]
  exact h
theorem rf_iso {G H : Gr} {π : Nat → Nat} (ha : iso G H π) : ∀ (k : Nat) (c1 c2 : Nat → Nat) (q : Nat), ev (gn G) π c1 c2 → (rf G k c2 q).2 = (rf H k c1 q).2 ∧ ev (gn G) π (rf H k c1 q).1 (rf G k c2 q).1 := by
  have en := ha.1
  intro k
  induction k with
  | zero => intro c1 c2 q he; exact ⟨rfl, he⟩
  | succ k ih =>
    intro c1 c2 q he
    obtain ⟨e1, e2⟩ := rd_iso ha he
    by_cases h1 : q < gn G
    · by_cases h2 : q < rq G c2
      · rw [rf_1 h1 h2, rf_1 (G := H) (by rw [← en]; exact h1) (by rw [← e1]; exact h2), e1]
        obtain ⟨a, b⟩ := ih _ _ (rq H c1) e2
        exact ⟨by show ((rf G k (rd G c2) (rq H c1)).2.1, (rf G k (rd G c2) (rq H c1)).2.2 + 1) = _; rw [a], b⟩
      · rw [rf_2 h1 h2, rf_2 (G := H) (by rw [← en]; exact h1) (by rw [← e1]; exact h2), e1]
        exact ⟨rfl, e2⟩
    · rw [rf_0 (Nat.le_of_not_lt h1), rf_0 (G := H) (by rw [← en]; exact Nat.le_of_not_lt h1)]
      exact ⟨rfl, he⟩
theorem st_iso {G H : Gr} {π : Nat → Nat} (ha : iso G H π) : (st G).2 = (st H).2 ∧ ev (gn G) π (st H).1 (st G).1 := by
  have := rf_iso ha 7 _ _ (q0 H) (c0_iso ha)
  unfold st rfn
  rw [q0_iso ha]
  exact this
theorem cwf_iso {n q : Nat} {π c1 c2 : Nat → Nat} (hp : pe n π) (he : ev n π c1 c2) (hw : cwf n c1 q) : cwf n c2 q := ⟨fun v hv => by rw [he v hv]; exact hw.1 _ (hp.1 v hv), fun j hj => by
  obtain ⟨v, hv, e⟩ := hw.2 j hj
  obtain ⟨i, hi, e2⟩ := pe_onto hp hv
  exact ⟨i, hi, by rw [he i hi, e2]; exact e⟩⟩
theorem nx_iso {G H : Gr} {π c1 c2 : Nat → Nat} (ha : iso G H π) (he : ev (gn G) π c1 c2) (q : Nat) {v : Nat} (hv : v < gn G) : (nx G c2 q v).2 = (nx H c1 q (π v)).2 ∧ ev (gn G) π (nx H c1 q (π v)).1 (nx G c2 q v).1 := rf_iso ha 7 _ _ (q + 1) (ap_ev ha.2.1 he hv)
theorem mrk_iso {G H : Gr} {π c1 c2 : Nat → Nat} (ha : iso G H π) (he : ev (gn G) π c1 c2) (q r : Nat) : mrk c2 (gn G) q r = mrk c1 (gn H) q r := by rw [← ha.1]; exact mrk_ev ha.2.1 he q r
theorem tg_iso {G H : Gr} {π c1 c2 : Nat → Nat} (ha : iso G H π) (he : ev (gn G) π c1 c2) (q : Nat) : tg c2 (gn G) q = tg c1 (gn H) q := by rw [← ha.1]; exact tg_ev ha.2.1 he q
theorem msn_iso {G H : Gr} {π c1 c2 : Nat → Nat} (ha : iso G H π) (he : ev (gn G) π c1 c2) (q : Nat) {v : Nat} (hv : v < gn G) (d : Nat) (ms : Nat → Nat) : msn G c2 q v d ms = msn H c1 q (π v) d ms := funext fun i => by
  obtain ⟨e1, e2⟩ := nx_iso ha he q hv
  unfold msn
  rw [e1, mrk_iso ha e2]
theorem cdA_two {G H : Gr} {a b : Nat → Nat} : ∀ {k : Nat}, (∀ i, i < k → gc G (a i) = gc H (b i)) → cdA G a k = cdA H b k := by
  intro k
  induction k with
  | zero => intro _; rfl
  | succ k ih => intro h; show cdA G a k ++ [_] = cdA H b k ++ [_]; rw [ih (fun i hi => h i (by omega)), h k (by omega)]
theorem cdR_two {G H : Gr} {a b : Nat → Nat} {i : Nat} : ∀ {k : Nat}, (∀ d, d < k → gk G (a i) (a (i + 1 + d)) = gk H (b i) (b (i + 1 + d))) → cdR G a i k = cdR H b i k := by
  intro k
  induction k with
  | zero => intro _; rfl
  | succ k ih => intro h; show cdR G a i k ++ [_] = cdR H b i k ++ [_]; rw [ih (fun i hi => h i (by omega)), h k (by omega)]
theorem cdB_two {G H : Gr} (hn : gn G = gn H) {a b : Nat → Nat} : ∀ {k : Nat}, (∀ i, i < k → cdR G a i (gn G - 1 - i) = cdR H b i (gn G - 1 - i)) → cdB G a k = cdB H b k := by
  intro k
  induction k with
  | zero => intro _; rfl
  | succ k ih => intro h; show cdB G a k ++ cdR G a k _ = cdB H b k ++ cdR H b k (gn H - 1 - k); rw [ih (fun i hi => h i (by omega)), h k (by omega), hn]
theorem cdl_two {G H : Gr} (hn : gn G = gn H) {a b : Nat → Nat} (h1 : ∀ i, i < gn G → gc G (a i) = gc H (b i)) (h2 : ∀ i j, i < gn G → j < gn G → gk G (a i) (a j) = gk H (b i) (b j)) : cdl G a = cdl H b := by
  unfold cdl
  rw [← hn, cdA_two h1, cdB_two hn (fun i hi => cdR_two (fun d hd => h2 i (i + 1 + d) hi (by omega)))]
theorem it_memw {α : Type} {c : Nat → Prop} [DecidablePred c] {F : Nat → List α} {x : α} : ∀ n, (x ∈ it (fun w (L : List α) => if c w then L ++ F w else L) n [] ↔ ∃ w, w < n ∧ c w ∧ x ∈ F w) := by
  intro n
  induction n with
  | zero => exact ⟨fun z => (by cases z), fun ⟨v, z, _⟩ => absurd z (Nat.not_lt_zero v)⟩
  | succ n ih =>
    rw [it_succ]
    by_cases hc : c n
    · rw [if_pos hc, List.mem_append, ih]
      constructor
      · rintro (⟨v, a, b⟩ | b)
        · exact ⟨v, by omega, b⟩
        · exact ⟨n, by omega, hc, b⟩
      · rintro ⟨v, a, b, b2⟩
        by_cases e : v = n
        · subst e; exact Or.inr b2
        · exact Or.inl ⟨v, by omega, b, b2⟩
    · rw [if_neg hc, ih]
      constructor
      · rintro ⟨v, a, b⟩; exact ⟨v, by omega, b⟩
      · rintro ⟨v, a, b, b2⟩
        by_cases e : v = n
        · subst e; exact absurd b hc
        · exact ⟨v, by omega, b, b2⟩
/-- leafs below like nodes of graphs that are alike -/
theorem lv_iso {G H : Gr} (hH : gWF H) {π : Nat → Nat} (ha : iso G H π) : ∀ (k : Nat) (c1 c2 : Nat → Nat) (q d : Nat) (ms : Nat → Nat), cwf (gn H) c1 q → ev (gn G) π c1 c2 → ∀ l ∈ lv H k c1 q d ms, ∃ l' ∈ lv G k c2 q d ms, ky l' = ky l ∧ ∀ j, j < gn G → l_a l j = π (l_a l' j) := by
  have en := ha.1
  intro k
  induction k with
  | zero => intro c1 c2 q d ms _ _ l hl; cases hl
  | succ k ih =>
    intro c1 c2 q d ms hw he l hl
    have et := tg_iso ha he q
    have hw2 : cwf (gn G) c2 q := cwf_iso ha.2.1 he (by rw [en]; exact hw)
    rw [lv_succ] at hl
    rw [lv_succ]
    by_cases h : tg c1 (gn H) q = 0
    · rw [if_pos h] at hl
      rw [et, if_pos h]
      refine ⟨_, List.mem_singleton.mpr rfl, ?_⟩
      rw [List.mem_singleton.mp hl]
      have hq := disc_q hw h
      have av : ∀ j, j < gn G → vi c1 (gn H) j = π (vi c2 (gn G) j) := fun j hj => by
        have s1 := vi_spec (hw.2 j (by omega))
        have s2 := vi_spec (hw2.2 j (by omega))
        refine disc_inj hw h s1.1 (by rw [← en]; exact ha.2.1.1 _ s2.1) ?_
        rw [s1.2, ← he _ s2.1, s2.2]
      have b2 : ∀ j, j < gn G → vi c2 (gn G) j < gn G := fun j hj => (vi_spec (hw2.2 j (by omega))).1
      have ec : cdl G (vi c2 (gn G)) = cdl H (vi c1 (gn H)) := cdl_two en (fun i hi => by rw [av i hi, ha.2.2.1 _ (b2 i hi)]) (fun i j hi hj => by rw [av i hi, av j hj, ha.2.2.2 _ _ (b2 i hi) (b2 j hj)])
      refine ⟨?_, av⟩
      show ky (d, ms, cd G (vi c2 (gn G)), _) = ky (d, ms, cd H (vi c1 (gn H)), _)
      unfold ky cd
      rw [ec]
    · rw [if_neg h] at hl
      rw [et, if_neg h]
      obtain ⟨v, hv, hc, hx⟩ := (it_memw (F := fun v => lv H k (nx H c1 q v).1 (nx H c1 q v).2.1 (d + 1) (msn H c1 q v d ms)) (gn H)).mp hl
      rw [← en] at hv
      obtain ⟨u, hu, rfl⟩ := pe_onto ha.2.1 hv
      obtain ⟨e1, e2⟩ := nx_iso ha he q hu
      have em := msn_iso ha he q hu d ms
      have hw1 : cwf (gn H) (nx H c1 q (π u)).1 (nx H c1 q (π u)).2.1 := (nx_all hH hw (by rw [← en]; exact hv) h hc).1
      obtain ⟨l', h1, h2, h3⟩ := ih _ _ _ _ _ hw1 e2 l hx
      refine ⟨l', (it_memw (F := fun v => lv G k (nx G c2 q v).1 (nx G c2 q v).2.1 (d + 1) (msn G c2 q v d ms)) (gn G)).mpr ⟨u, hu, by rw [he u hu]; exact hc, ?_⟩, h2, h3⟩
      rw [em, e1]; exact h1
