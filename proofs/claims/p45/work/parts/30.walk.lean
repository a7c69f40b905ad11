/-! THE SEARCH: what holds of all its states -/
/-- what the marks on a way are like -/
def nmk (n : Nat) (q d : Nat) (ms : Nat → Nat) : Prop := (∀ i, i < d → ms i < 10 ^ n) ∧ (∀ i, d < i → ms i = 0) ∧ (q < n → ms d < 10 ^ n) ∧ (q = n → 10 ^ n ≤ ms d)
def nod (G : Gr) (c : Nat → Nat) (q d : Nat) (ms : Nat → Nat) (apb : Nat) : Prop := nin G c q d ms apb ∧ nmk (gn G) q d ms
theorem nod_d {G : Gr} (hG : gWF G) {c : Nat → Nat} {q d apb : Nat} {ms : Nat → Nat} (h : nod G c q d ms apb) : d + 1 ≤ q ∧ q ≤ gn G ∧ d ≤ 6 := by
  have h1 := h.1.2.1
  have h2 := cwf_le h.1.1
  have h3 := hG.2.1.2
  omega
theorem mrk_lo {c : Nat → Nat} {n q r : Nat} (hn : n ≤ 7) (hq : q < n) (hr : r < 10) : mrk c n q r < 10 ^ n := by
  unfold mrk
  have h1 : nm 10 (cz c n) q < 10 ^ q := nm_lt fun i _ => by have := cz_le c n i; omega
  have h2 : 10 ^ (q + 1) ≤ 10 ^ n := Nat.pow_le_pow_right (by decide) hq
  rw [Nat.pow_succ] at h2
  omega
theorem mrk_hi {c : Nat → Nat} {n r : Nat} (hn : 1 ≤ n) (hc : cwf n c n) : 10 ^ n ≤ mrk c n n r := by
  unfold mrk
  have key : ∀ k, (∀ i, i < k → 1 ≤ cz c n i) → 10 ^ k ≤ 10 * nm 10 (cz c n) k + 1 := by
    intro k
    induction k with
    | zero => intro _; exact Nat.le_refl _
    | succ k ih =>
      intro h
      have a := ih (fun i hi => h i (by omega))
      have b := h k (by omega)
      show 10 ^ (k + 1) ≤ 10 * (10 * nm 10 (cz c n) k + cz c n k) + 1
      rw [Nat.pow_succ]
      omega
  obtain ⟨n', rfl⟩ : ∃ n', n = n' + 1 := ⟨n - 1, by omega⟩
  have a := key n' (fun i hi => cz_pos.mpr (hc.2 i (by omega)))
  have b : 0 < cz c (n' + 1) n' := cz_pos.mpr (hc.2 n' (by omega))
  show 10 ^ (n' + 1) ≤ 10 * (10 * nm 10 (cz c (n' + 1)) n' + cz c (n' + 1) n') + r
  rw [Nat.pow_succ]
  omega
theorem nod_nx {G : Gr} (hG : gWF G) {c : Nat → Nat} {q d v apb : Nat} {ms : Nat → Nat} (hi : nod G c q d ms apb) (hv : v < gn G) (h : tg c (gn G) q ≠ 0) (hc : c v + 1 = tg c (gn G) q) : nod G (nx G c q v).1 (nx G c q v).2.1 (d + 1) (msn G c q v d ms) (apb ||| 2 ^ v) := by
  obtain ⟨a1, a2, a3, a4, a5⟩ := nx_all hG hi.1.1 hv h hc
  refine ⟨nin_nx hG hi.1 hv h hc, fun i hlt => ?_, fun i hlt => ?_, fun hq => ?_, fun hq => ?_⟩
  · unfold msn
    rw [if_neg (by omega)]
    by_cases z : i = d
    · subst z; exact hi.2.2.2.1 a5
    · exact hi.2.1 i (by omega)
  · unfold msn
    rw [if_neg (by omega)]
    exact hi.2.2.1 i (by omega)
  · unfold msn
    rw [if_pos rfl]
    exact mrk_lo hG.2.1.2 hq a4
  · unfold msn
    rw [if_pos rfl, hq]
    rw [hq] at a1
    exact mrk_hi hG.2.1.1 a1
theorem lmk_mkl {G : Gr} (hG : gWF G) {c : Nat → Nat} {q d apb : Nat} {ms : Nat → Nat} (hi : nod G c q d ms apb) (h : tg c (gn G) q = 0) : lmk (gn G) (mkl G c d ms) := ⟨(nod_d hG hi).2.2, hi.2.1, hi.2.2.2.2 (disc_q hi.1.1 h), hi.2.2.1, hi.1.2.2.1⟩
/-- what holds of every state of the search that begins so and is kept by its steps -/
theorem sw_ind {G : Gr} (hG : gWF G) (P : SS → Prop) (hn : ∀ s, P s → P (ss_n s)) (hk : ∀ s, P s → P (ss_k s)) (hct : ∀ s, P s → P (ss_c s)) (hl : ∀ c q d ms apb s, nod G c q d ms apb → tg c (gn G) q = 0 → P s → P (sl (gn G) (mkl G c d ms) s)) : ∀ (k : Nat) (c : Nat → Nat) (q d : Nat) (ms : Nat → Nat) (apb : Nat) (s : SS), nod G c q d ms apb → P s → P (sw G k c q d ms apb s) := by
  intro k
  induction k with
  | zero => intro c q d ms apb s _ hs; exact hs
  | succ k ih =>
    intro c q d ms apb s hi hs
    show P (if _ then _ else _)
    by_cases h : tg c (gn G) q = 0
    · rw [if_pos h]; exact hl c q d ms apb _ hi h (hn s hs)
    · rw [if_neg h]
      refine it_inv (f := fun v (x : Nat × SS) => if c v + 1 = tg c (gn G) q then (if (cl (gn G) apb (S_g x.2) 7 x.1).testBit v = true then (x.1, ss_k x.2) else (x.1 ||| 2 ^ v, if cutc x.2 (msn G c q v d ms) (d + 1) = true then ss_c x.2 else sw G k (nx G c q v).1 (nx G c q v).2.1 (d + 1) (msn G c q v d ms) (apb ||| 2 ^ v) x.2)) else x) (n := gn G) (s := ((0 : Nat), ss_n s)) (fun _ x => P x.2) (hn s hs) (fun v x hv hx => ?_)
      by_cases hc : c v + 1 = tg c (gn G) q
      · rw [if_pos hc]
        by_cases hsk : (cl (gn G) apb (S_g x.2) 7 x.1).testBit v = true
        · rw [if_pos hsk]; exact hk _ hx
        · rw [if_neg hsk]
          show P (if _ then _ else _)
          by_cases hcut : cutc x.2 (msn G c q v d ms) (d + 1) = true
          · rw [if_pos hcut]; exact hct _ hx
          · rw [if_neg hcut]; exact ih _ _ _ _ _ _ (nod_nx hG hi hv h hc) hx
      · rw [if_neg hc]; exact hx
def sgo (s : SS) : Prop := (S_l s = 0 → S_g s = []) ∧ (S_l s ≠ 0 → (S_g s).length + 1 ≤ S_l s)
/-- first and best are leafs, generators are numbers of the machine -/
def sft (G : Gr) (s : SS) : Prop := (S_l s ≠ 0 → (lmk (gn G) (S_f s) ∧ lcd (gn G) (S_f s)) ∧ lmk (gn G) (S_t s) ∧ lcd (gn G) (S_t s) ∧ pe (gn G) (l_a (S_f s)) ∧ pe (gn G) (l_a (S_t s))) ∧ ∀ g ∈ S_g s, g < 2 ^ 24
theorem sl_l (n : Nat) (l : Lf) (s : SS) : S_l (sl n l s) = S_l s + 1 := by
  unfold sl
  split
  · rename_i h; show 1 = S_l s + 1; omega
  · split
    · rfl
    · split
      · rfl
      · split <;> rfl
theorem sl_g (n : Nat) (l : Lf) (s : SS) : (S_g s).length ≤ (S_g (sl n l s)).length := by
  unfold sl
  split
  · exact Nat.le_refl _
  · split
    · show _ ≤ (S_g s ++ [_]).length; rw [List.length_append]; omega
    · split
      · exact Nat.le_refl _
      · split
        · show _ ≤ (S_g s ++ [_]).length; rw [List.length_append]; omega
        · exact Nat.le_refl _
theorem sgo_sl {n : Nat} {l : Lf} {s : SS} (h : sgo s) : sgo (sl n l s) := by
  refine ⟨fun z => by rw [sl_l] at z; omega, fun _ => ?_⟩
  rw [sl_l]
  unfold sl
  by_cases h0 : S_l s = 0
  · rw [if_pos h0]
    show (S_g s).length + 1 ≤ _
    rw [h.1 h0]; show 0 + 1 ≤ _; omega
  · have := h.2 h0
    rw [if_neg h0]
    split
    · show (S_g s ++ [_]).length + 1 ≤ _; rw [List.length_append]; show (S_g s).length + 1 + 1 ≤ _; omega
    · split
      · show (S_g s).length + 1 ≤ _; omega
      · split
        · show (S_g s ++ [_]).length + 1 ≤ _; rw [List.length_append]; show (S_g s).length + 1 + 1 ≤ _; omega
        · show (S_g s).length + 1 ≤ _; omega
theorem gnum_lt {a b : Nat → Nat} : ∀ {n : Nat}, (∀ c, c < n → a c < 8 ∧ b c < 8) → gnum a b n < 2 ^ 24 := by
  intro n
  induction n with
  | zero => intro _; show (0 : Nat) < 2 ^ 24; decide
  | succ n ih =>
    intro h
    refine Nat.or_lt_two_pow (ih fun c hc => h c (by omega)) ?_
    obtain ⟨h1, h2⟩ := h n (by omega)
    have h3 : 2 ^ (3 * b n) ≤ 2 ^ 21 := Nat.pow_le_pow_right (by decide) (by omega)
    have h4 : a n * 2 ^ (3 * b n) ≤ 7 * 2 ^ 21 := Nat.mul_le_mul (by omega) h3
    have : (7 : Nat) * 2 ^ 21 < 2 ^ 24 := by decide
    omega
theorem sft_sl {G : Gr} (hG : gWF G) {l : Lf} {s : SS} (hl : lmk (gn G) l) (hc : lcd (gn G) l) (ha : pe (gn G) (l_a l)) (h : sft G s) : sft G (sl (gn G) l s) := by
  have h7 := hG.2.1.2
  have gl : ∀ f, pe (gn G) (l_a f) → gnum (l_a l) (l_a f) (gn G) < 2 ^ 24 := fun f hf => gnum_lt fun c hc => ⟨by have := ha.1 c hc; omega, by have := hf.1 c hc; omega⟩
  unfold sl
  by_cases h0 : S_l s = 0
  · rw [if_pos h0]; exact ⟨fun _ => ⟨⟨hl, hc⟩, hl, hc, ha, ha⟩, h.2⟩
  · obtain ⟨b1, b2, b3, b4, b5⟩ := h.1 h0
    rw [if_neg h0]
    split
    · refine ⟨fun _ => ⟨b1, b2, b3, b4, b5⟩, fun g hg => ?_⟩
      rcases List.mem_append.mp hg with z | z
      · exact h.2 g z
      · rw [List.mem_singleton.mp z]; exact gl _ b4
    · split
      · exact ⟨fun _ => ⟨b1, hl, hc, b4, ha⟩, h.2⟩
      · split
        · refine ⟨fun _ => ⟨b1, b2, b3, b4, b5⟩, fun g hg => ?_⟩
          rcases List.mem_append.mp hg with z | z
          · exact h.2 g z
          · rw [List.mem_singleton.mp z]; exact gl _ b5
        · exact ⟨fun _ => ⟨b1, b2, b3, b4, b5⟩, h.2⟩
theorem sw_sgo {G : Gr} (hG : gWF G) {k : Nat} {c : Nat → Nat} {q d : Nat} {ms : Nat → Nat} {apb : Nat} {s : SS} (hi : nod G c q d ms apb) (h : sgo s) : sgo (sw G k c q d ms apb s) := sw_ind hG sgo (fun _ h => h) (fun _ h => h) (fun _ h => h) (fun _ _ _ _ _ _ _ _ h => sgo_sl h) k c q d ms apb s hi h
theorem sw_sft {G : Gr} (hG : gWF G) {k : Nat} {c : Nat → Nat} {q d : Nat} {ms : Nat → Nat} {apb : Nat} {s : SS} (hi : nod G c q d ms apb) (h : sft G s) : sft G (sw G k c q d ms apb s) := sw_ind hG (sft G) (fun _ h => h) (fun _ h => h) (fun _ h => h) (fun _ _ _ _ _ _ hi h0 h => sft_sl hG (lmk_mkl hG hi h0) (lcd_cd hG.1 _ _ _) (vi_pe hi.1.1 h0).1 h) k c q d ms apb s hi h
theorem sw_mono {G : Gr} (hG : gWF G) {k : Nat} {c : Nat → Nat} {q d : Nat} {ms : Nat → Nat} {apb : Nat} {s : SS} (hi : nod G c q d ms apb) : S_l s ≤ S_l (sw G k c q d ms apb s) := sw_ind hG (fun s' => S_l s ≤ S_l s') (fun _ h => h) (fun _ h => h) (fun _ h => h) (fun _ _ _ _ _ s' _ _ h => by rw [sl_l]; have h : S_l s ≤ S_l s' := h; omega) k c q d ms apb s hi (Nat.le_refl _)
def ff : Nat → Nat
  | 0 => 1
  | j + 1 => (j + 1) * ff j
theorem ff_pos : ∀ j, 1 ≤ ff j := by
  intro j
  induction j with
  | zero => exact Nat.le_refl _
  | succ j ih => show 1 ≤ (j + 1) * ff j; exact Nat.le_trans ih (Nat.le_mul_of_pos_left _ (by omega))
theorem ff_mono {a b : Nat} (h : a ≤ b) : ff a ≤ ff b := by
  obtain ⟨d, rfl⟩ := Nat.exists_eq_add_of_le h
  induction d with
  | zero => exact Nat.le_refl _
  | succ d ih => exact Nat.le_trans (ih (by omega)) (Nat.le_mul_of_pos_left _ (by omega))
theorem sw_bound {G : Gr} (hG : gWF G) : ∀ (k : Nat) (c : Nat → Nat) (q d : Nat) (ms : Nat → Nat) (apb : Nat) (s : SS), nod G c q d ms apb → S_l (sw G k c q d ms apb s) ≤ S_l s + ff (gn G + 1 - q) := by
  intro k
  induction k with
  | zero => intro c q d ms apb s _; show S_l s ≤ _; omega
  | succ k ih =>
    intro c q d ms apb s hi
    show S_l (if _ then _ else _) ≤ _
    by_cases h : tg c (gn G) q = 0
    · rw [if_pos h, sl_l]
      have := ff_pos (gn G + 1 - q)
      show S_l s + 1 ≤ _
      omega
    · rw [if_neg h]
      have key := it_inv (f := fun v (x : Nat × SS) => if c v + 1 = tg c (gn G) q then (if (cl (gn G) apb (S_g x.2) 7 x.1).testBit v = true then (x.1, ss_k x.2) else (x.1 ||| 2 ^ v, if cutc x.2 (msn G c q v d ms) (d + 1) = true then ss_c x.2 else sw G k (nx G c q v).1 (nx G c q v).2.1 (d + 1) (msn G c q v d ms) (apb ||| 2 ^ v) x.2)) else x) (n := gn G) (s := ((0 : Nat), ss_n s)) (fun v x => S_l x.2 ≤ S_l s + fb_ct (fun u => c u + 1 == tg c (gn G) q) v * ff (gn G - q)) (Nat.le_add_right _ _) (fun v x hv hx => by
        have es : fb_ct (fun u => c u + 1 == tg c (gn G) q) (v + 1) = fb_ct (fun u => c u + 1 == tg c (gn G) q) v + (if (c v + 1 == tg c (gn G) q) = true then 1 else 0) := fb_ct_succ _ _
        by_cases hc : c v + 1 = tg c (gn G) q
        · rw [es, if_pos (bq_t hc), if_pos hc, Nat.add_mul, Nat.one_mul]
          by_cases hsk : (cl (gn G) apb (S_g x.2) 7 x.1).testBit v = true
          · rw [if_pos hsk]; show S_l x.2 ≤ _; omega
          · rw [if_neg hsk]
            show S_l (if _ then _ else _) ≤ _
            by_cases hcut : cutc x.2 (msn G c q v d ms) (d + 1) = true
            · rw [if_pos hcut]; show S_l x.2 ≤ _; omega
            · rw [if_neg hcut]
              have h1 := ih _ _ _ _ (apb ||| 2 ^ v) x.2 (nod_nx hG hi hv h hc)
              have h2 := (nx_all hG hi.1.1 hv h hc).2.1
              have h3 := ff_mono (show gn G + 1 - (nx G c q v).2.1 ≤ gn G - q by omega)
              omega
        · rw [if_neg hc, es, bq_f hc, if_neg (show ¬ (false = true) by decide), Nat.add_zero]; exact hx)
      have hq := cwf_le hi.1.1
      have hct : fb_ct (fun u => c u + 1 == tg c (gn G) q) (gn G) ≤ gn G + 1 - q := by
        have h1 := cz_room hi.1.1 (show tg c (gn G) q - 1 < q by have := tg_le c (gn G) q; omega)
        have h2 : fb_ct (fun u => c u + 1 == tg c (gn G) q) (gn G) = cz c (gn G) (tg c (gn G) q - 1) := fb_ct_cong fun u _ => by
          by_cases z : c u + 1 = tg c (gn G) q
          · rw [bq_t z, bq_t (show c u = tg c (gn G) q - 1 by omega)]
          · rw [bq_f z, bq_f (show c u ≠ tg c (gn G) q - 1 by omega)]
        omega
      have e1 : ff (gn G + 1 - q) = (gn G + 1 - q) * ff (gn G - q) := by rw [show gn G + 1 - q = (gn G - q) + 1 by omega]; rfl
      have h4 := Nat.mul_le_mul_right (ff (gn G - q)) hct
      rw [e1]
      have key : S_l (it _ (gn G) ((0 : Nat), ss_n s)).2 ≤ _ := key
      omega
theorem nod_0 {G : Gr} (hG : gWF G) : nod G (st G).1 (st G).2.1 0 (ms0 G) 0 := by
  have hc := st_cwf hG
  have h7 := hG.2.1.2
  obtain ⟨a1, a2, a3, -⟩ := rf_all h7 7 _ _ (c0_cwf hG.1)
  have hq := cwf_le hc
  have hq0 := q0_pos hG
  have hr : (st G).2.2 < 10 := by show (rf G 7 (c0 G) (q0 G)).2.2 < 10; have : (rf G 7 (c0 G) (q0 G)).2.1 ≤ gn G := hq; omega
  have h1 : 1 ≤ (st G).2.1 := Nat.le_trans hq0 a2
  refine ⟨⟨hc, h1, fun i => ?_, fun π ha _ => st_ev ha⟩, fun i hi => absurd hi (Nat.not_lt_zero _), fun i hi => ?_, fun h => ?_, fun h => ?_⟩
  · unfold ms0
    split
    · exact mrk_lt h7 (by omega) hr
    · decide
  · unfold ms0; rw [if_neg (by omega)]
  · unfold ms0; rw [if_pos rfl]; exact mrk_lo h7 h hr
  · unfold ms0; rw [if_pos rfl]
    rw [h] at hc ⊢
    exact mrk_hi hG.2.1.1 hc
theorem srch_l {G : Gr} (hG : gWF G) : S_l (srch G) ≤ 5040 := by
  have h1 := sw_bound hG 7 _ _ _ _ 0 ss0 (nod_0 hG)
  have h2 := (nod_0 hG).1.2.1
  have h3 := hG.2.1.2
  have h4 := ff_mono (show gn G + 1 - (st G).2.1 ≤ 7 by omega)
  have h5 : ff 7 = 5040 := by decide
  have h6 : S_l ss0 = 0 := rfl
  show S_l (sw G 7 (st G).1 (st G).2.1 0 (ms0 G) 0 ss0) ≤ 5040
  omega
