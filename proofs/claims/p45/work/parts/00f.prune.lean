/-! what THE SEARCH leaves is not the least: its best is the tree's -/
theorem fLm_skip {o : Option Lf} : ∀ {L : List Lf}, (∀ l ∈ L, ∃ b, o = some b ∧ ky b ≤ ky l) → fLm o L = o := by
  intro L
  induction L with
  | nil => intro _; rfl
  | cons x L ih =>
    intro h
    obtain ⟨b, e, hb⟩ := h x List.mem_cons_self
    show fLm (fL1 o x) L = o
    have e1 : fL1 o x = o := by
      rw [e]
      show (if _ then _ else _) = _
      rw [if_neg (by omega)]
    rw [e1]
    exact ih fun l hl => h l (List.mem_cons_of_mem _ hl)
theorem fL1_le (o : Option Lf) (x : Lf) : ∃ b, fL1 o x = some b ∧ ky b ≤ ky x ∧ ∀ b0, o = some b0 → ky b ≤ ky b0 := by
  cases o with
  | none => exact ⟨x, rfl, Nat.le_refl _, fun _ h => by cases h⟩
  | some b =>
    by_cases h : ky x < ky b
    · exact ⟨x, by show (if _ then _ else _) = _; rw [if_pos h], Nat.le_refl _, fun b0 e => by cases e; omega⟩
    · exact ⟨b, by show (if _ then _ else _) = _; rw [if_neg h], by omega, fun b0 e => by cases e; omega⟩
theorem fLm_le : ∀ (L : List Lf) (o : Option Lf), (∀ l ∈ L, ∃ b, fLm o L = some b ∧ ky b ≤ ky l) ∧ ∀ b0, o = some b0 → ∃ b, fLm o L = some b ∧ ky b ≤ ky b0 := by
  intro L
  induction L with
  | nil => intro o; exact ⟨fun l hl => (by cases hl), fun b0 e => ⟨b0, e, Nat.le_refl _⟩⟩
  | cons x L ih =>
    intro o
    obtain ⟨b1, e1, h1, h2⟩ := fL1_le o x
    obtain ⟨i1, i2⟩ := ih (fL1 o x)
    obtain ⟨b2, e2, h3⟩ := i2 b1 e1
    refine ⟨fun l hl => ?_, fun b0 e => ⟨b2, e2, by have := h2 b0 e; omega⟩⟩
    rcases List.mem_cons.mp hl with h | h
    · subst h; exact ⟨b2, e2, by omega⟩
    · exact i1 l h
def lwf (G : Gr) (l : Lf) : Prop := pe (gn G) (l_a l) ∧ l_c l = cd G (l_a l) ∧ ∀ i, l_m l i < 100000000
def gin (G : Gr) (s : SS) : Prop := (S_l s = 0 → S_g s = []) ∧ (∀ g ∈ S_g s, au G (sent g)) ∧ (S_l s ≠ 0 → lwf G (S_f s) ∧ lwf G (S_t s) ∧ ky (S_t s) ≤ ky (S_f s))
def nin (G : Gr) (c : Nat → Nat) (q d : Nat) (ms : Nat → Nat) (apb : Nat) : Prop := cwf (gn G) c q ∧ d + 1 ≤ q ∧ (∀ i, ms i < 100000000) ∧ ∀ π, au G π → (∀ v, v < gn G → apb.testBit v = true → π v = v) → ev (gn G) π c c
theorem gnum_bit {a b : Nat → Nat} {v i : Nat} (hi : i < 3) : ∀ {k : Nat}, (∀ c, c < k → a c < 8) → ((gnum a b k).testBit (3 * v + i) = true ↔ ∃ c, c < k ∧ b c = v ∧ (a c).testBit i = true) := by
  intro k
  induction k with
  | zero => intro _; show (0 : Nat).testBit _ = true ↔ _; rw [Nat.zero_testBit]; simp
  | succ k ih =>
    intro h
    show (gnum a b k ||| a k * 2 ^ (3 * b k)).testBit _ = true ↔ _
    rw [Nat.testBit_or, Bool.or_eq_true, ih (fun c hc => h c (by omega)), ← Nat.shiftLeft_eq, Nat.testBit_shiftLeft]
    have e : (decide (3 * v + i ≥ 3 * b k) && (a k).testBit (3 * v + i - 3 * b k)) = true ↔ (b k = v ∧ (a k).testBit i = true) := by
      rcases Nat.lt_trichotomy (b k) v with g | g | g
      · rw [bit_hi (n := 3) (h k (by omega)) (by omega)]
        simp; intro z; omega
      · subst g
        rw [Nat.add_sub_cancel_left]
        simp
      · have : ¬ (3 * v + i ≥ 3 * b k) := by omega
        simp [this]; intro z; omega
    rw [e]
    constructor
    · rintro (⟨c, h1, h2⟩ | h2)
      · exact ⟨c, by omega, h2⟩
      · exact ⟨k, by omega, h2⟩
    · rintro ⟨c, h1, h2⟩
      by_cases ec : c = k
      · subst ec; exact Or.inr h2
      · exact Or.inl ⟨c, by omega, h2⟩
theorem sent_lt (g v : Nat) : sent g v < 8 := Nat.mod_lt _ (by decide)
theorem sent_bit (g v i : Nat) (hi : i < 3) : (sent g v).testBit i = g.testBit (3 * v + i) := by
  unfold sent
  rw [show (8 : Nat) = 2 ^ 3 from rfl, Nat.testBit_mod_two_pow, ← Nat.shiftRight_eq_div_pow, Nat.testBit_shiftRight]
  simp [hi]
theorem sent_gnum {n : Nat} {a b : Nat → Nat} (hn : n ≤ 7) (ha : pe n a) (hb : pe n b) {c : Nat} (hc : c < n) : sent (gnum a b n) (b c) = a c := by
  have ha8 : ∀ c, c < n → a c < 8 := fun c hc => by have := ha.1 c hc; omega
  refine bits_eq (n := 3) (sent_lt _ _) (ha8 c hc) fun i hi => ?_
  rw [sent_bit _ _ _ hi]
  have e := gnum_bit (a := a) (b := b) (v := b c) hi ha8
  cases h : (a c).testBit i with
  | true => exact e.mpr ⟨c, hc, rfl, h⟩
  | false =>
    cases h2 : (gnum a b n).testBit (3 * b c + i) with
    | false => rfl
    | true =>
      obtain ⟨c', h3, h4, h5⟩ := e.mp h2
      have := hb.2 c' c h3 hc h4
      subst this
      rw [h] at h5; cases h5
theorem ky_code {G : Gr} (hG : gWF G) {l l' : Lf} (h1 : l_c l = cd G (l_a l)) (h2 : l_c l' = cd G (l_a l')) (e : ky l = ky l') : cdl G (l_a l) = cdl G (l_a l') := by
  have b1 : nm 10 (l_c l) 28 < 10 ^ 28 := nm_lt fun i _ => by rw [h1]; exact cd_lt hG.1 _ _
  have b2 : nm 10 (l_c l') 28 < 10 ^ 28 := nm_lt fun i _ => by rw [h2]; exact cd_lt hG.1 _ _
  have e2 : nm 10 (l_c l) 28 = nm 10 (l_c l') 28 := by
    have := congrArg (fun z => z % 10 ^ 28) e
    unfold ky at this
    simp only [Nat.mul_add_mod_self_right] at this
    rw [Nat.mod_eq_of_lt b1, Nat.mod_eq_of_lt b2] at this
    exact this
  have := nm_inj (fun i _ => by rw [h1]; exact cd_lt hG.1 _ _) (fun i _ => by rw [h2]; exact cd_lt hG.1 _ _) e2
  rw [h1, h2] at this
  exact cd_inj hG.2.1.2 this
theorem gen_au {G : Gr} (hG : gWF G) {l f : Lf} (hl : lwf G l) (hf : lwf G f) (e : ky l = ky f) : au G (sent (gnum (l_a l) (l_a f) (gn G))) := by
  obtain ⟨c1, c2⟩ := cdl_eq hG.1 (ky_code hG hl.2.1 hf.2.1 e)
  have sg : ∀ c, c < gn G → sent (gnum (l_a l) (l_a f) (gn G)) (l_a f c) = l_a l c := fun c hc => sent_gnum hG.2.1.2 hl.1 hf.1 hc
  refine ⟨⟨fun i hi => ?_, fun i j hi hj z => ?_⟩, fun v hv => ?_, fun a b ha hb => ?_⟩
  · obtain ⟨c, hc, rfl⟩ := pe_onto hf.1 hi
    rw [sg c hc]; exact hl.1.1 c hc
  · obtain ⟨c, hc, rfl⟩ := pe_onto hf.1 hi
    obtain ⟨c', hc', rfl⟩ := pe_onto hf.1 hj
    rw [sg c hc, sg c' hc'] at z
    rw [hl.1.2 c c' hc hc' z]
  · obtain ⟨c, hc, rfl⟩ := pe_onto hf.1 hv
    rw [sg c hc]; exact c1 c hc
  · obtain ⟨c, hc, rfl⟩ := pe_onto hf.1 ha
    obtain ⟨c', hc', rfl⟩ := pe_onto hf.1 hb
    rw [sg c hc, sg c' hc']; exact c2 c c' hc hc'
theorem sob_sl {G : Gr} {l : Lf} {s : SS} (hs : gin G s) : sob (sl (gn G) l s) = fL1 (sob s) l := by
  unfold sob sl
  by_cases h0 : S_l s = 0
  · rw [if_pos h0, if_pos h0]
    show (if (1 : Nat) = 0 then _ else _) = _
    rw [if_neg (by decide)]; rfl
  · obtain ⟨-, -, h3⟩ := hs.2.2 h0
    rw [if_neg h0, if_neg h0]
    show _ = (if ky l < ky (S_t s) then _ else _)
    by_cases h1 : ky l = ky (S_f s)
    · rw [if_pos h1, if_neg (show ¬ ky l < ky (S_t s) by omega)]
      show (if S_l s + 1 = 0 then _ else _) = _
      rw [if_neg (by omega)]
    · rw [if_neg h1]
      by_cases h2 : ky l < ky (S_t s)
      · rw [if_pos h2, if_pos h2]
        show (if S_l s + 1 = 0 then _ else _) = _
        rw [if_neg (by omega)]
      · rw [if_neg h2, if_neg h2]
        split
        · show (if S_l s + 1 = 0 then _ else _) = _
          rw [if_neg (by omega)]
        · show (if S_l s + 1 = 0 then _ else _) = _
          rw [if_neg (by omega)]
theorem gin_sl {G : Gr} (hG : gWF G) {l : Lf} {s : SS} (hl : lwf G l) (hs : gin G s) : gin G (sl (gn G) l s) := by
  unfold sl
  by_cases h0 : S_l s = 0
  · rw [if_pos h0]
    exact ⟨fun h => absurd h Nat.one_ne_zero, fun g hg => hs.2.1 g hg, fun _ => ⟨hl, hl, Nat.le_refl _⟩⟩
  · obtain ⟨h1, h2, h3⟩ := hs.2.2 h0
    rw [if_neg h0]
    by_cases e1 : ky l = ky (S_f s)
    · rw [if_pos e1]
      refine ⟨fun h => absurd h (Nat.succ_ne_zero _), fun g hg => ?_, fun _ => ⟨h1, h2, h3⟩⟩
      rcases List.mem_append.mp hg with h | h
      · exact hs.2.1 g h
      · rw [List.mem_singleton.mp h]; exact gen_au hG hl h1 e1
    · rw [if_neg e1]
      by_cases e2 : ky l < ky (S_t s)
      · rw [if_pos e2]
        exact ⟨fun h => absurd h (Nat.succ_ne_zero _), hs.2.1, fun _ => ⟨h1, hl, by show ky l ≤ ky (S_f s); omega⟩⟩
      · rw [if_neg e2]
        by_cases e3 : ky l = ky (S_t s)
        · rw [if_pos e3]
          refine ⟨fun h => absurd h (Nat.succ_ne_zero _), fun g hg => ?_, fun _ => ⟨h1, h2, h3⟩⟩
          rcases List.mem_append.mp hg with h | h
          · exact hs.2.1 g h
          · rw [List.mem_singleton.mp h]; exact gen_au hG hl h2 e3
        · rw [if_neg e3]
          exact ⟨fun h => absurd h (Nat.succ_ne_zero _), hs.2.1, fun _ => ⟨h1, h2, h3⟩⟩
theorem im_bit (g s v : Nat) : ∀ k, ((im g s k).testBit v = true ↔ ∃ w, w < k ∧ s.testBit w = true ∧ sent g w = v) := by
  intro k
  induction k with
  | zero => show (0 : Nat).testBit v = true ↔ _; rw [Nat.zero_testBit]; simp
  | succ k ih =>
    show ((if _ then _ else _) : Nat).testBit v = true ↔ _
    by_cases h : s.testBit k = true
    · rw [if_pos h, Nat.testBit_or, Bool.or_eq_true, ih, Nat.testBit_two_pow, decide_eq_true_iff]
      constructor
      · rintro (⟨w, h1, h2⟩ | h2)
        · exact ⟨w, by omega, h2⟩
        · exact ⟨k, by omega, h, h2⟩
      · rintro ⟨w, h1, h2, h3⟩
        by_cases e : w = k
        · subst e; exact Or.inr h3
        · exact Or.inl ⟨w, by omega, h2, h3⟩
    · rw [if_neg h, ih]
      constructor
      · rintro ⟨w, h1, h2⟩; exact ⟨w, by omega, h2⟩
      · rintro ⟨w, h1, h2, h3⟩
        by_cases e : w = k
        · subst e; exact absurd h2 h
        · exact ⟨w, by omega, h2, h3⟩
theorem lvs_iff {g ap n : Nat} : lvs g ap n = true ↔ ∀ v, v < n → ap.testBit v = true → sent g v = v := by
  unfold lvs
  rw [beq_iff_eq]
  constructor
  · intro h v hv hb
    apply Classical.byContradiction
    intro e
    have : 0 < fb_ct (fun v => ap.testBit v && !(sent g v == v)) n := fb_ct_pos.mpr ⟨v, hv, by simp [hb, e]⟩
    omega
  · intro h
    refine ct_0 fun v hv => ?_
    cases hb : ap.testBit v with
    | false => rfl
    | true => simp [h v hv hb]
/-- what the closure holds comes by symmetries that leave ap where it is -/
def cby (G : Gr) (apb lk all : Nat) : Prop := ∀ v, v < gn G → all.testBit v = true → ∃ u, u < gn G ∧ lk.testBit u = true ∧ ∃ π, au G π ∧ (∀ w, w < gn G → apb.testBit w = true → π w = w) ∧ π u = v
theorem cby_ps {G : Gr} {apb lk : Nat} : ∀ {gs : List Nat} {all : Nat}, (∀ g ∈ gs, au G (sent g)) → cby G apb lk all → cby G apb lk (ps (gn G) apb gs all) := by
  intro gs
  induction gs with
  | nil => intro all _ h; exact h
  | cons g gs ih =>
    intro all hg h
    refine ih (fun x hx => hg x (List.mem_cons_of_mem _ hx)) ?_
    by_cases hl : lvs g apb (gn G) = true
    · rw [if_pos hl]
      intro v hv hb
      rw [Nat.testBit_or, Bool.or_eq_true] at hb
      rcases hb with hb | hb
      · exact h v hv hb
      · obtain ⟨w, h1, h2, h3⟩ := (im_bit g all v (gn G)).mp hb
        obtain ⟨u, hu, h4, π, h5, h6, h7⟩ := h w h1 h2
        have ga := hg g List.mem_cons_self
        exact ⟨u, hu, h4, fun i => sent g (π i), au_comp ga h5, fun x hx hxb => by show sent g (π x) = x; rw [h6 x hx hxb]; exact lvs_iff.mp hl x hx hxb, by show sent g (π u) = v; rw [h7]; exact h3⟩
    · rw [if_neg hl]; exact h
theorem cby_cl {G : Gr} {apb lk : Nat} {gs : List Nat} (hg : ∀ g ∈ gs, au G (sent g)) : ∀ (k : Nat) {all : Nat}, cby G apb lk all → cby G apb lk (cl (gn G) apb gs k all) := by
  intro k
  induction k with
  | zero => intro all h; exact h
  | succ k ih => intro all h; exact ih (cby_ps hg h)
theorem cby_0 (G : Gr) (apb lk : Nat) : cby G apb lk lk := fun v hv hb => ⟨v, hv, hb, fun i => i, au_id G, fun _ _ _ => rfl, rfl⟩
theorem lv_succ (G : Gr) (k : Nat) (c : Nat → Nat) (q d : Nat) (ms : Nat → Nat) : lv G (k + 1) c q d ms = if tg c (gn G) q = 0 then [mkl G c d ms] else it (fun v (x : List Lf) => if c v + 1 = tg c (gn G) q then x ++ lv G k (nx G c q v).1 (nx G c q v).2.1 (d + 1) (msn G c q v d ms) else x) (gn G) [] := rfl
theorem lv_pre {G : Gr} : ∀ (k : Nat) (c : Nat → Nat) (q d : Nat) (ms : Nat → Nat), ∀ l ∈ lv G k c q d ms, ∀ i, i ≤ d → l_m l i = ms i := by
  intro k
  induction k with
  | zero => intro c q d ms l hl; cases hl
  | succ k ih =>
    intro c q d ms l hl
    have hl : l ∈ (if _ then _ else _) := hl
    by_cases h : tg c (gn G) q = 0
    · rw [if_pos h] at hl
      rw [List.mem_singleton.mp hl]
      intro i _; rfl
    · rw [if_neg h] at hl
      have key := it_inv (f := fun v (x : List Lf) => if c v + 1 = tg c (gn G) q then x ++ lv G k (nx G c q v).1 (nx G c q v).2.1 (d + 1) (msn G c q v d ms) else x) (n := gn G) (s := []) (fun _ x => ∀ l ∈ x, ∀ i, i ≤ d → l_m l i = ms i) (fun l hl => by cases hl) (fun v x hv hx => by
        split
        · intro l hl i hi
          rcases List.mem_append.mp hl with h | h
          · exact hx l h i hi
          · rw [ih _ _ _ _ l h i (by omega)]
            unfold msn; rw [if_neg (by omega)]
        · exact hx)
      exact key l hl
/-- leafs below like nodes are alike, by their keys -/
theorem lv_ev {G : Gr} (hG : gWF G) {π : Nat → Nat} (ha : au G π) : ∀ (k : Nat) (c1 c2 : Nat → Nat) (q d : Nat) (ms : Nat → Nat), cwf (gn G) c1 q → ev (gn G) π c1 c2 → ∀ l ∈ lv G k c1 q d ms, ∃ l' ∈ lv G k c2 q d ms, ky l' = ky l := by
  intro k
  induction k with
  | zero => intro c1 c2 q d ms _ _ l hl; cases hl
  | succ k ih =>
    intro c1 c2 q d ms hw he l hl
    have et := tg_ev ha.1 he q
    have hl : l ∈ (if _ then _ else _) := hl
    rw [lv_succ]
    by_cases h : tg c1 (gn G) q = 0
    · rw [if_pos h] at hl
      rw [et, if_pos h]
      refine ⟨_, List.mem_singleton.mpr rfl, ?_⟩
      rw [List.mem_singleton.mp hl]
      -- the codes are the same
      have hw2 : cwf (gn G) c2 q := ⟨fun v hv => by rw [he v hv]; exact hw.1 _ (ha.1.1 v hv), fun j hj => by
        obtain ⟨v, hv, e⟩ := hw.2 j hj
        obtain ⟨i, hi, e2⟩ := pe_onto ha.1 hv
        exact ⟨i, hi, by rw [he i hi, e2]; exact e⟩⟩
      have hq := disc_q hw h
      have av : ∀ j, j < gn G → vi c1 (gn G) j = π (vi c2 (gn G) j) := fun j hj => by
        have s1 := vi_spec (hw.2 j (by omega))
        have s2 := vi_spec (hw2.2 j (by omega))
        refine disc_inj hw h s1.1 (ha.1.1 _ s2.1) ?_
        rw [s1.2, ← he _ s2.1, s2.2]
      have b2 : ∀ j, j < gn G → vi c2 (gn G) j < gn G := fun j hj => (vi_spec (hw2.2 j (by omega))).1
      have ec : cdl G (vi c2 (gn G)) = cdl G (vi c1 (gn G)) := cdl_cong (fun i hi => by rw [av i hi, ha.2.1 _ (b2 i hi)]) (fun i j hi hj => by rw [av i hi, av j hj, ha.2.2 _ _ (b2 i hi) (b2 j hj)])
      show ky (d, ms, cd G (vi c2 (gn G)), _) = ky (d, ms, cd G (vi c1 (gn G)), _)
      unfold ky cd
      rw [ec]
    · rw [if_neg h] at hl
      rw [et, if_neg h]
      -- every child of the one is a child of the other
      have sub : ∀ (c : Nat → Nat) (t : Nat) (L : Nat → List Lf) (x : Lf) (n : Nat), x ∈ it (fun v (y : List Lf) => if c v + 1 = t then y ++ L v else y) n [] ↔ ∃ v, v < n ∧ c v + 1 = t ∧ x ∈ L v := by
        intro c t L x n
        induction n with
        | zero => constructor
                  · intro z; cases z
                  · rintro ⟨v, z, -⟩; omega
        | succ n ih3 =>
          rw [it_succ]
          by_cases hc : c n + 1 = t
          · rw [if_pos hc, List.mem_append, ih3]
            constructor
            · rintro (⟨v, a, b⟩ | b)
              · exact ⟨v, by omega, b⟩
              · exact ⟨n, by omega, hc, b⟩
            · rintro ⟨v, a, b, b2⟩
              by_cases e : v = n
              · subst e; exact Or.inr b2
              · exact Or.inl ⟨v, by omega, b, b2⟩
          · rw [if_neg hc, ih3]
            constructor
            · rintro ⟨v, a, b⟩; exact ⟨v, by omega, b⟩
            · rintro ⟨v, a, b, b2⟩
              by_cases e : v = n
              · subst e; exact absurd b hc
              · exact ⟨v, by omega, b, b2⟩
      obtain ⟨v, hv, hc, hx⟩ := (sub c1 _ (fun v => lv G k (nx G c1 q v).1 (nx G c1 q v).2.1 (d + 1) (msn G c1 q v d ms)) l (gn G)).mp hl
      obtain ⟨u, hu, rfl⟩ := pe_onto ha.1 hv
      have hap := ap_ev ha.1 he hu
      obtain ⟨e1, e2⟩ := rf_ev ha 7 _ _ (q + 1) hap
      have em : msn G c1 q (π u) d ms = msn G c2 q u d ms := funext fun i => by
        unfold msn nx rfn
        rw [e1, mrk_ev ha.1 e2]
      have hw1 : cwf (gn G) (nx G c1 q (π u)).1 (nx G c1 q (π u)).2.1 := by
        have hsz : 1 < cz c1 (gn G) (c1 (π u)) := by
          have := tg_size h
          rw [← hc] at this
          simpa using this
        exact (rf_all hG.2.1.2 7 _ _ (ap_cwf hw hv hsz)).1
      obtain ⟨l', h1, h2⟩ := ih _ _ _ _ _ hw1 e2 l hx
      refine ⟨l', (sub c2 _ (fun v => lv G k (nx G c2 q v).1 (nx G c2 q v).2.1 (d + 1) (msn G c2 q v d ms)) l' (gn G)).mpr ⟨u, hu, by rw [he u hu]; exact hc, ?_⟩, h2⟩
      have : lv G k (nx G c2 q u).1 (nx G c2 q u).2.1 (d + 1) (msn G c2 q u d ms) = lv G k (rf G 7 (ap c2 u) (q + 1)).1 (nx G c1 q (π u)).2.1 (d + 1) (msn G c1 q (π u) d ms) := by
        rw [em]; unfold nx rfn; rw [e1]
      rw [this]; exact h1
theorem mrk_lt {G : Gr} (hn : gn G ≤ 7) {c : Nat → Nat} {q r : Nat} (hq : q ≤ 7) (hr : r < 10) : mrk c (gn G) q r < 100000000 := by
  unfold mrk
  have h1 : nm 10 (cz c (gn G)) q < 10 ^ q := nm_lt fun i _ => by have := cz_le c (gn G) i; omega
  have h2 : 10 ^ q ≤ 10 ^ 7 := Nat.pow_le_pow_right (by decide) hq
  have : (10 : Nat) ^ 7 = 10000000 := by decide
  omega
theorem nx_all {G : Gr} (hG : gWF G) {c : Nat → Nat} {q v : Nat} (hw : cwf (gn G) c q) (hv : v < gn G) (h : tg c (gn G) q ≠ 0) (hc : c v + 1 = tg c (gn G) q) : cwf (gn G) (nx G c q v).1 (nx G c q v).2.1 ∧ q + 1 ≤ (nx G c q v).2.1 ∧ (nx G c q v).2.1 ≤ gn G ∧ (nx G c q v).2.2 < 10 ∧ q < gn G := by
  have hsz : 1 < cz c (gn G) (c v) := by
    have := tg_size h
    rw [← hc] at this
    simpa using this
  obtain ⟨a1, a2, a3, -⟩ := rf_all hG.2.1.2 7 _ _ (ap_cwf hw hv hsz)
  have a4 := cwf_le a1
  have := hG.2.1.2
  refine ⟨a1, a2, a4, ?_, ?_⟩
  · show (rf G 7 (ap c v) (q + 1)).2.2 < 10
    omega
  · omega
theorem nin_nx {G : Gr} (hG : gWF G) {c : Nat → Nat} {q d v apb : Nat} {ms : Nat → Nat} (hi : nin G c q d ms apb) (hv : v < gn G) (h : tg c (gn G) q ≠ 0) (hc : c v + 1 = tg c (gn G) q) : nin G (nx G c q v).1 (nx G c q v).2.1 (d + 1) (msn G c q v d ms) (apb ||| 2 ^ v) := by
  obtain ⟨h1, h2, h3, h4⟩ := hi
  obtain ⟨a1, a2, a3, a4, -⟩ := nx_all hG h1 hv h hc
  refine ⟨a1, by omega, fun i => ?_, fun π ha hf => ?_⟩
  · unfold msn
    split
    · exact mrk_lt hG.2.1.2 (by have := hG.2.1.2; omega) a4
    · exact h3 i
  · have ev0 := h4 π ha fun w hw hb => hf w hw (by rw [Nat.testBit_or, hb]; rfl)
    have hfix : π v = v := hf v hv (by rw [Nat.testBit_or, Nat.testBit_two_pow_self, Bool.or_true])
    have := ap_ev ha.1 ev0 hv
    rw [hfix] at this
    exact (rf_ev ha 7 _ _ (q + 1) this).2
theorem lwf_mkl {G : Gr} {c : Nat → Nat} {q d apb : Nat} {ms : Nat → Nat} (hi : nin G c q d ms apb) (h : tg c (gn G) q = 0) : lwf G (mkl G c d ms) := ⟨(vi_pe hi.1 h).1, rfl, hi.2.2.1⟩
theorem sw_best {G : Gr} (hG : gWF G) : ∀ (k : Nat) (c : Nat → Nat) (q d : Nat) (ms : Nat → Nat) (apb : Nat) (s : SS), nin G c q d ms apb → gin G s → gin G (sw G k c q d ms apb s) ∧ sob (sw G k c q d ms apb s) = fLm (sob s) (lv G k c q d ms) := by
  intro k
  induction k with
  | zero => intro c q d ms apb s _ hs; exact ⟨hs, rfl⟩
  | succ k ih =>
    intro c q d ms apb s hi hs
    show gin G (if _ then _ else _) ∧ sob (if _ then _ else _) = fLm (sob s) (if _ then _ else _)
    by_cases h : tg c (gn G) q = 0
    · rw [if_pos h, if_pos h]
      have hs' : gin G (ss_n s) := hs
      exact ⟨gin_sl hG (lwf_mkl hi h) hs', by rw [sob_sl hs']; rfl⟩
    · rw [if_neg h, if_neg h]
      let Lc : Nat → List Lf := fun v => lv G k (nx G c q v).1 (nx G c q v).2.1 (d + 1) (msn G c q v d ms)
      let LL : Nat → List Lf := fun v => it (fun v (x : List Lf) => if c v + 1 = tg c (gn G) q then x ++ Lc v else x) v []
      have key := it_inv (f := fun v (x : Nat × SS) => if c v + 1 = tg c (gn G) q then (if (cl (gn G) apb (S_g x.2) 7 x.1).testBit v = true then (x.1, ss_k x.2) else (x.1 ||| 2 ^ v, if cutc x.2 (msn G c q v d ms) (d + 1) = true then ss_c x.2 else sw G k (nx G c q v).1 (nx G c q v).2.1 (d + 1) (msn G c q v d ms) (apb ||| 2 ^ v) x.2)) else x) (n := gn G) (s := ((0 : Nat), ss_n s))
        (fun v x => gin G x.2 ∧ sob x.2 = fLm (sob s) (LL v) ∧ ∀ u, u < gn G → x.1.testBit u = true → c u + 1 = tg c (gn G) q ∧ ∀ l ∈ Lc u, ∃ b, sob x.2 = some b ∧ ky b ≤ ky l)
        ⟨hs, rfl, fun u _ hb => by rw [Nat.zero_testBit] at hb; cases hb⟩
        (fun v x hv hx => by
          obtain ⟨x1, x2, x3⟩ := hx
          by_cases hc : c v + 1 = tg c (gn G) q
          · have eL : LL (v + 1) = LL v ++ Lc v := by
              show (if _ then _ else _) = _
              rw [if_pos hc]
            rw [if_pos hc]
            by_cases hsk : (cl (gn G) apb (S_g x.2) 7 x.1).testBit v = true
            · rw [if_pos hsk]
              obtain ⟨u, hu, hub, π, p1, p2, p3⟩ := cby_cl x1.2.1 7 (cby_0 G apb x.1) v hv hsk
              obtain ⟨y1, y2⟩ := x3 u hu hub
              have hle : ∀ l ∈ Lc v, ∃ b, sob x.2 = some b ∧ ky b ≤ ky l := fun l hl => by
                have e0 := hi.2.2.2 π p1 p2
                have hap := ap_ev p1.1 e0 hu
                rw [p3] at hap
                obtain ⟨e1, e2⟩ := rf_ev p1 7 _ _ (q + 1) hap
                obtain ⟨a1, -⟩ := nx_all hG hi.1 hv h hc
                obtain ⟨l', h1, h2⟩ := lv_ev hG p1 k _ _ _ _ _ a1 e2 l hl
                have em : msn G c q v d ms = msn G c q u d ms := funext fun i => by
                  unfold msn nx rfn
                  rw [e1, mrk_ev p1.1 e2]
                have : l' ∈ Lc u := by
                  show l' ∈ lv G k (nx G c q u).1 (nx G c q u).2.1 (d + 1) (msn G c q u d ms)
                  rw [← em]
                  have e3 : (nx G c q u).2.1 = (nx G c q v).2.1 := by unfold nx rfn; rw [e1]
                  rw [e3]; exact h1
                obtain ⟨b, hb, hk⟩ := y2 l' this
                exact ⟨b, hb, by omega⟩
              refine ⟨x1, ?_, x3⟩
              show sob x.2 = _
              rw [eL, fLm_app, ← x2, fLm_skip hle]
            · rw [if_neg hsk]
              by_cases hct : cutc x.2 (msn G c q v d ms) (d + 1) = true
              · rw [if_pos hct]
                have hle : ∀ l ∈ Lc v, ∃ b, sob x.2 = some b ∧ ky b ≤ ky l := fun l hl => by
                  unfold cutc at hct
                  simp only [Bool.and_eq_true, Bool.not_eq_true', beq_eq_false_iff_ne, beq_iff_eq, decide_eq_true_iff] at hct
                  obtain ⟨c1, c2, c3, c4⟩ := hct
                  refine ⟨S_t x.2, by unfold sob; rw [if_neg c1], ?_⟩
                  have pre := lv_pre k _ _ (d + 1) _ l hl
                  have hd : d + 1 < 7 := by
                    have := (nx_all hG hi.1 hv h hc).2.2.2.2
                    have := hi.2.1; have := hG.2.1.2
                    omega
                  have hlt : nm 100000000 (l_m (S_t x.2)) 7 < nm 100000000 (l_m l) 7 := nm_lx (fun i _ => (x1.2.2 c1).2.1.2.2 i) hd (fun j hj => by
                    rw [pre j (by omega)]
                    apply Classical.byContradiction
                    intro hne
                    have : 0 < fb_ct (fun i => !(msn G c q v d ms i == l_m (S_t x.2) i)) (d + 1) := fb_ct_pos.mpr ⟨j, hj, by simp [Ne.symm hne]⟩
                    omega) (by rw [pre (d + 1) (Nat.le_refl _)]; exact c4)
                  have hb : nm 10 (l_c (S_t x.2)) 28 < 10 ^ 28 := nm_lt fun i _ => by rw [(x1.2.2 c1).2.1.2.1]; exact cd_lt hG.1 _ _
                  unfold ky
                  have := Nat.mul_le_mul_right (10 ^ 28) (show nm 100000000 (l_m (S_t x.2)) 7 + 1 ≤ nm 100000000 (l_m l) 7 from hlt)
                  rw [Nat.add_mul] at this
                  omega
                refine ⟨x1, ?_, fun u hu hub => ?_⟩
                · show sob x.2 = _
                  rw [eL, fLm_app, ← x2, fLm_skip hle]
                · rw [Nat.testBit_or, Bool.or_eq_true, Nat.testBit_two_pow, decide_eq_true_iff] at hub
                  rcases hub with hub | hub
                  · exact x3 u hu hub
                  · subst hub; exact ⟨hc, hle⟩
              · rw [if_neg hct]
                obtain ⟨z1, z2⟩ := ih _ _ _ _ (apb ||| 2 ^ v) x.2 (nin_nx hG hi hv h hc) x1
                have lef := fLm_le (Lc v) (sob x.2)
                refine ⟨z1, ?_, fun u hu hub => ?_⟩
                · show sob (sw G k _ _ _ _ _ x.2) = _
                  rw [eL, fLm_app, ← x2, z2]
                · rw [Nat.testBit_or, Bool.or_eq_true, Nat.testBit_two_pow, decide_eq_true_iff] at hub
                  show _ ∧ ∀ l ∈ Lc u, ∃ b, sob (sw G k _ _ _ _ _ x.2) = some b ∧ _
                  rw [z2]
                  rcases hub with hub | hub
                  · obtain ⟨y1, y2⟩ := x3 u hu hub
                    refine ⟨y1, fun l hl => ?_⟩
                    obtain ⟨b, hb, hk⟩ := y2 l hl
                    obtain ⟨b', hb', hk'⟩ := lef.2 b hb
                    exact ⟨b', hb', by omega⟩
                  · subst hub; exact ⟨hc, lef.1⟩
          · rw [if_neg hc]
            have eL : LL (v + 1) = LL v := by
              show (if _ then _ else _) = _
              rw [if_neg hc]
            exact ⟨x1, by rw [eL]; exact x2, x3⟩)
      exact ⟨key.1, key.2.1⟩
