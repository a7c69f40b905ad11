/-! the class Tree: the way through the whole tree -/
def pTS (m : zm) (o n : Nat) (s : TS) : Prop := m.1 o 4 = nI (t_n s) ∧ m.1 o 5 = nI (t_l s) ∧ m.1 o 9 = nI (t_d s) ∧ m.1 o 10 = nI (t_k s) ∧ (t_l s ≠ 0 → pF m (o + 21) n (t_t s))
def pTR (m : zm) (o n : Nat) (s : TS) : Prop := m.1 o 4 = nI (t_n s) ∧ m.1 o 5 = nI (t_l s + 1) ∧ m.1 o 9 = nI (t_d s) ∧ m.1 o 10 = nI (t_k s) ∧ (t_l s ≠ 0 → pF m (o + 21) n (t_t s))
def tft (n : Nat) (s : TS) : Prop := (t_l s ≠ 0 → lmk n (t_t s) ∧ lcd n (t_t s)) ∧ t_d s ≤ 6
def twb (G : Gr) (k : Nat) (c : Nat → Nat) (q d : Nat) (ms : Nat → Nat) (v : Nat) (x : TS) : TS := if c v + 1 = tg c (gn G) q then tw G k (nx G c q v).1 (nx G c q v).2.1 (d + 1) (msn G c q v d ms) x else x
theorem tw_succ (G : Gr) (k : Nat) (c : Nat → Nat) (q d : Nat) (ms : Nat → Nat) (s : TS) : tw G (k + 1) c q d ms s = if tg c (gn G) q = 0 then tl (mkl G c d ms) (ts_n s) else it (twb G k c q d ms) (gn G) (ts_n s) := rfl
theorem tl_l (l : Lf) (s : TS) : t_l (tl l s) = t_l s + 1 := by
  unfold tl
  split
  · rfl
  · split <;> rfl
theorem tft_tl {n : Nat} {l : Lf} {s : TS} (hl : lmk n l) (hc : lcd n l) (h : tft n s) : tft n (tl l s) := by
  have hd : (if t_d s < l_d l then l_d l else t_d s) ≤ 6 := by
    split
    · exact hl.1
    · exact h.2
  unfold tl
  split
  · exact ⟨fun _ => ⟨hl, hc⟩, hd⟩
  · rename_i h1
    have h2 : t_l s ≠ 0 := fun z => h1 (Or.inl z)
    split
    · exact ⟨fun _ => h.1 h2, hd⟩
    · exact ⟨fun _ => h.1 h2, hd⟩
theorem tw_ind {G : Gr} (hG : gWF G) (P : TS → Prop) (hn : ∀ s, P s → P (ts_n s)) (hl : ∀ c q d ms apb s, nod G c q d ms apb → tg c (gn G) q = 0 → P s → P (tl (mkl G c d ms) s)) : ∀ (k : Nat) (c : Nat → Nat) (q d : Nat) (ms : Nat → Nat) (apb : Nat) (s : TS), nod G c q d ms apb → P s → P (tw G k c q d ms s) := by
  intro k
  induction k with
  | zero => intro c q d ms apb s _ hs; exact hs
  | succ k ih =>
    intro c q d ms apb s hi hs
    rw [tw_succ]
    by_cases h : tg c (gn G) q = 0
    · rw [if_pos h]; exact hl c q d ms apb _ hi h (hn s hs)
    · rw [if_neg h]
      refine it_inv (f := twb G k c q d ms) (n := gn G) (s := ts_n s) (fun _ x => P x) (hn s hs) (fun v x hv hx => ?_)
      unfold twb
      by_cases hc : c v + 1 = tg c (gn G) q
      · rw [if_pos hc]; exact ih _ _ _ _ _ _ (nod_nx hG hi hv h hc) hx
      · rw [if_neg hc]; exact hx
theorem tw_tft {G : Gr} (hG : gWF G) {k : Nat} {c : Nat → Nat} {q d : Nat} {ms : Nat → Nat} {apb : Nat} {s : TS} (hi : nod G c q d ms apb) (h : tft (gn G) s) : tft (gn G) (tw G k c q d ms s) := tw_ind hG (tft (gn G)) (fun _ h => h) (fun _ _ _ _ _ _ hi h0 h => tft_tl (lmk_mkl hG hi h0) (lcd_cd hG.1 _ _ _) h) k c q d ms apb s hi h
theorem tw_mono {G : Gr} (hG : gWF G) {k : Nat} {c : Nat → Nat} {q d : Nat} {ms : Nat → Nat} {apb : Nat} {s : TS} (hi : nod G c q d ms apb) : t_l s ≤ t_l (tw G k c q d ms s) := tw_ind hG (fun s' => t_l s ≤ t_l s') (fun _ h => h) (fun _ _ _ _ _ s' _ _ h => by rw [tl_l]; have h : t_l s ≤ t_l s' := h; omega) k c q d ms apb s hi (Nat.le_refl _)
theorem tw_bound {G : Gr} (hG : gWF G) : ∀ (k : Nat) (c : Nat → Nat) (q d : Nat) (ms : Nat → Nat) (apb : Nat) (s : TS), nod G c q d ms apb → t_l (tw G k c q d ms s) ≤ t_l s + ff (gn G + 1 - q) := by
  intro k
  induction k with
  | zero => intro c q d ms apb s _; show t_l s ≤ _; omega
  | succ k ih =>
    intro c q d ms apb s hi
    rw [tw_succ]
    by_cases h : tg c (gn G) q = 0
    · rw [if_pos h, tl_l]
      have := ff_pos (gn G + 1 - q)
      show t_l s + 1 ≤ _
      omega
    · rw [if_neg h]
      have key := it_inv (f := twb G k c q d ms) (n := gn G) (s := ts_n s) (fun v x => t_l x ≤ t_l s + fb_ct (fun u => c u + 1 == tg c (gn G) q) v * ff (gn G - q)) (Nat.le_add_right _ _) (fun v x hv hx => by
        have es : fb_ct (fun u => c u + 1 == tg c (gn G) q) (v + 1) = fb_ct (fun u => c u + 1 == tg c (gn G) q) v + (if (c v + 1 == tg c (gn G) q) = true then 1 else 0) := fb_ct_succ _ _
        unfold twb
        by_cases hc : c v + 1 = tg c (gn G) q
        · rw [es, if_pos (bq_t hc), if_pos hc, Nat.add_mul, Nat.one_mul]
          have h1 := ih _ _ _ _ _ x (nod_nx hG hi hv h hc)
          have h2 := (nx_all hG hi.1.1 hv h hc).2.1
          have h3 := ff_mono (show gn G + 1 - (nx G c q v).2.1 ≤ gn G - q by omega)
          omega
        · rw [if_neg hc, es, bq_f hc, if_neg (show ¬ (false = true) by decide), Nat.add_zero]; exact hx)
      have hq := cwf_le hi.1.1
      have hct : fb_ct (fun u => c u + 1 == tg c (gn G) q) (gn G) ≤ gn G + 1 - q := by
        have h1 := cz_room hi.1.1 (show tg c (gn G) q - 1 < q by have := tg_le c (gn G) q; omega)
        have h2 : fb_ct (fun u => c u + 1 == tg c (gn G) q) (gn G) = cz c (gn G) (tg c (gn G) q - 1) := fb_ct_cong fun u _ => by
          by_cases z : c u + 1 = tg c (gn G) q
          · rw [bq_t z, bq_t (show c u = tg c (gn G) q - 1 by omega)]
          · rw [bq_f z, bq_f (show c u ≠ tg c (gn G) q - 1 by omega)]
        omega
      have e1 : ff (gn G + 1 - q) = (gn G + 1 - q) * ff (gn G - q) := by rw [show gn G + 1 - q = (gn G - q) + 1 by omega]; rfl
      have h4 := Nat.mul_le_mul_right (ff (gn G - q)) hct
      rw [e1]
      have key : t_l (it _ (gn G) (ts_n s)) ≤ _ := key
      omega
theorem twb_mono {G : Gr} (hG : gWF G) {k : Nat} {c : Nat → Nat} {q d : Nat} {ms : Nat → Nat} {apb : Nat} (hi : nod G c q d ms apb) (h : tg c (gn G) q ≠ 0) {v : Nat} (hv : v < gn G) (x : TS) : t_l x ≤ t_l (twb G k c q d ms v x) := by
  unfold twb
  by_cases h1 : c v + 1 = tg c (gn G) q
  · rw [if_pos h1]; exact tw_mono hG (nod_nx hG hi hv h h1)
  · rw [if_neg h1]; exact Nat.le_refl _
theorem itw_mono {G : Gr} (hG : gWF G) {k : Nat} {c : Nat → Nat} {q d : Nat} {ms : Nat → Nat} {apb : Nat} (hi : nod G c q d ms apb) (h : tg c (gn G) q ≠ 0) (x : TS) : ∀ t v, v + t ≤ gn G → t_l (it (twb G k c q d ms) v x) ≤ t_l (it (twb G k c q d ms) (v + t) x) := by
  intro t
  induction t with
  | zero => intro v _; exact Nat.le_refl _
  | succ t ih =>
    intro v hv
    exact Nat.le_trans (ih v (by omega)) (twb_mono hG hi h (show v + t < gn G by omega) _)
theorem tree_l {G : Gr} (hG : gWF G) : t_l (tree G) ≤ 5040 := by
  have h1 := tw_bound hG 7 _ _ _ _ 0 ts0 (nod_0 hG)
  have h2 := (nod_0 hG).1.2.1
  have h3 := hG.2.1.2
  have h4 := ff_mono (show gn G + 1 - (st G).2.1 ≤ 7 by omega)
  have h5 : ff 7 = 5040 := by decide
  have h6 : t_l ts0 = 0 := rfl
  show t_l (tw G 7 (st G).1 (st G).2.1 0 (ms0 G) ts0) ≤ 5040
  omega
/-- the tree has a leaf; its least one is THE SEARCH's best -/
theorem it_mem (c : Nat → Nat) (t : Nat) (L : Nat → List Lf) (x : Lf) (n : Nat) : x ∈ it (fun v (y : List Lf) => if c v + 1 = t then y ++ L v else y) n [] ↔ ∃ v, v < n ∧ c v + 1 = t ∧ x ∈ L v := by
  induction n with
  | zero => constructor
            · intro z; cases z
            · rintro ⟨v, z, -⟩; omega
  | succ n ih3 =>
    rw [it_succ]
    by_cases hc : c n + 1 = t
    · rw [if_pos hc, List.mem_append, ih3]
      constructor
      · rintro (⟨v, a, b⟩ | b)
        · exact ⟨v, by omega, b⟩
        · exact ⟨n, by omega, hc, b⟩
      · rintro ⟨v, a, b, b2⟩
        by_cases e : v = n
        · subst e; exact Or.inr b2
        · exact Or.inl ⟨v, by omega, b, b2⟩
    · rw [if_neg hc, ih3]
      constructor
      · rintro ⟨v, a, b⟩; exact ⟨v, by omega, b⟩
      · rintro ⟨v, a, b, b2⟩
        by_cases e : v = n
        · subst e; exact absurd b hc
        · exact ⟨v, by omega, b, b2⟩
theorem lv_ne {G : Gr} (hG : gWF G) : ∀ (k : Nat) (c : Nat → Nat) (q d : Nat) (ms : Nat → Nat) (apb : Nat), nod G c q d ms apb → gn G ≤ k + d → ∃ l, l ∈ lv G k c q d ms := by
  intro k
  induction k with
  | zero => intro c q d ms apb hi h; have := nod_d hG hi; omega
  | succ k ih =>
    intro c q d ms apb hi h
    rw [lv_succ]
    by_cases h0 : tg c (gn G) q = 0
    · rw [if_pos h0]; exact ⟨_, List.mem_singleton.mpr rfl⟩
    · rw [if_neg h0]
      obtain ⟨v, hv, e⟩ := cz_pos.mp (show 0 < cz c (gn G) (tg c (gn G) q - 1) by have := tg_size h0; omega)
      have hc : c v + 1 = tg c (gn G) q := by omega
      obtain ⟨l, hl⟩ := ih _ _ _ _ _ (nod_nx hG hi hv h0 hc) (by omega)
      exact ⟨l, (it_mem c _ (fun v => lv G k (nx G c q v).1 (nx G c q v).2.1 (d + 1) (msn G c q v d ms)) l (gn G)).mpr ⟨v, hv, hc, hl⟩⟩
theorem best_same {G : Gr} (hG : gWF G) : S_l (srch G) ≠ 0 ∧ t_l (tree G) ≠ 0 ∧ S_t (srch G) = t_t (tree G) := by
  have hi := nod_0 hG
  have g0 : gin G ss0 := ⟨fun _ => rfl, fun g hg => (by cases hg), fun h => absurd rfl h⟩
  have e1 := (sw_best hG 7 _ _ _ _ 0 ss0 hi.1 g0).2
  have e2 := tob_tw G 7 (st G).1 (st G).2.1 0 (ms0 G) ts0
  obtain ⟨l, hl⟩ := lv_ne hG 7 _ _ _ _ _ hi (by have := hG.2.1.2; omega)
  obtain ⟨b, hb, -⟩ := (fLm_le (lv G 7 (st G).1 (st G).2.1 0 (ms0 G)) none).1 l hl
  have e1 : sob (srch G) = some b := e1.trans hb
  have e2 : tob (tree G) = some b := e2.trans hb
  unfold sob at e1
  unfold tob at e2
  by_cases h1 : S_l (srch G) = 0
  · rw [if_pos h1] at e1; cases e1
  · by_cases h2 : t_l (tree G) = 0
    · rw [if_pos h2] at e2; cases e2
    · rw [if_neg h1] at e1
      rw [if_neg h2] at e2
      exact ⟨h1, h2, Option.some.inj (e1.trans e2.symm)⟩
def fT (o : Nat) (m m' : zm) : Prop := (∀ a, a ≠ o → (a < o + 21 ∨ o + 25 ≤ a) → m'.1 a = m.1 a ∧ m'.2 a = m.2 a) ∧ ∀ k, k ≠ 9 → k ≠ 10 → m'.1 o k = m.1 o k
theorem fT_trans {o : Nat} {m m' m'' : zm} (h1 : fT o m m') (h2 : fT o m' m'') : fT o m m'' := ⟨fun a h h' => ⟨(h2.1 a h h').1.trans (h1.1 a h h').1, (h2.1 a h h').2.trans (h1.1 a h h').2⟩, fun k h h' => (h2.2 k h h').trans (h1.2 k h h')⟩
theorem fT_fz {o lo hi : Nat} {m m' : zm} (h : fz lo hi m m') (h1 : o + 21 ≤ lo ∧ hi ≤ o + 25) : fT o m m' := ⟨fun a ha h' => h a (by omega), fun k _ _ => fz_1 h (by omega) k⟩
theorem fT_wI {o k : Nat} {v : Int32} {m : zm} (h : k = 9 ∨ k = 10) : fT o m (wI m o k v) := ⟨fun a ha _ => ⟨funext fun j => rI_n (fun q => ha q.1), rfl⟩, fun j h1 h2 => rI_n (fun q => by omega)⟩
def fV (o d : Nat) (m m' : zm) : Prop := (∀ a, (a < o ∨ o + 60 ≤ a ∨ (o + 1 ≤ a ∧ a < o + 17) ∨ (o + 25 ≤ a ∧ a < o + 30 + 5 * d)) → m'.1 a = m.1 a ∧ m'.2 a = m.2 a) ∧ (∀ i, i ≤ d → m'.1 (o + 18) i = m.1 (o + 18) i) ∧ m'.1 o 8 = m.1 o 8
theorem fV_trans {o d : Nat} {m m' m'' : zm} (h1 : fV o d m m') (h2 : fV o d m' m'') : fV o d m m'' := ⟨fun a h => ⟨(h2.1 a h).1.trans (h1.1 a h).1, (h2.1 a h).2.trans (h1.1 a h).2⟩, fun i h => (h2.2.1 i h).trans (h1.2.1 i h), h2.2.2.trans h1.2.2⟩
theorem fV_mono {o d d' : Nat} {m m' : zm} (h : fV o d' m m') (hd : d ≤ d') : fV o d m m' := ⟨fun a ha => h.1 a (by omega), fun i hi => h.2.1 i (by omega), h.2.2⟩
theorem fV_fz {o d lo hi : Nat} {m m' : zm} (h : fz lo hi m m') (h1 : o + 30 + 5 * d ≤ lo) (h2 : hi ≤ o + 60) : fV o d m m' := ⟨fun a ha => h a (by omega), fun i _ => fz_1 h (by omega) i, fz_1 h (by omega) 8⟩
theorem fV_wI {o d k : Nat} {v : Int32} {m : zm} (h : k ≠ 8) : fV o d m (wI m o k v) := ⟨fun a ha => ⟨funext fun j => rI_n (fun q => by omega), rfl⟩, fun i _ => rI_n (fun q => by omega), rI_n (fun q => h q.2.symm)⟩
theorem fV_mark {o d k : Nat} {v : Int32} {m : zm} (h : d < k) : fV o d m (wI m (o + 18) k v) := ⟨fun a ha => ⟨funext fun j => rI_n (fun q => by omega), rfl⟩, fun i hi => rI_n (fun q => by omega), rI_n (fun q => by omega)⟩
theorem fV_fT {o d : Nat} {m m' : zm} (h : fT o m m') : fV o d m m' := ⟨fun a ha => h.1 a (by omega) (by omega), fun i _ => congrFun (h.1 (o + 18) (by omega) (by omega)).1 i, h.2 8 (by decide) (by decide)⟩
theorem pG_fV {o d : Nat} {m m' : zm} {G : Gr} (h : pG m (o + 1) G) (f : fV o d m m') : pG m' (o + 1) G := by
  have q : ∀ a, o + 1 ≤ a → a < o + 17 → m'.1 a = m.1 a := fun a h1 h2 => (f.1 a (by omega)).1
  exact ⟨by rw [q _ (by omega) (by omega)]; exact h.1, fun v hv => by rw [q _ (by omega) (by omega)]; exact h.2.1 v hv, fun a b ha hb => by rw [q _ (by omega) (by omega)]; exact h.2.2.1 a b ha hb, fun k x hk hx => by rw [q _ (by omega) (by omega)]; exact h.2.2.2 k x hk hx⟩
theorem pC_fV {o d n q : Nat} {m m' : zm} {c : Nat → Nat} (h : pC m (o + 25 + 5 * d) n c q) (f : fV o d m m') : pC m' (o + 25 + 5 * d) n c q := by
  have r : ∀ a, o + 25 ≤ a → a < o + 30 + 5 * d → m'.1 a = m.1 a := fun a h1 h2 => (f.1 a (by omega)).1
  exact ⟨by rw [r _ (by omega) (by omega)]; exact h.1, fun j hj => by rw [r _ (by omega) (by omega)]; exact h.2 j hj⟩
theorem pTS_fz {o n lo hi : Nat} {m m' : zm} {s : TS} (h : pTS m o n s) (f : fz lo hi m m') (h1 : (o + 1 ≤ lo ∧ hi ≤ o + 21) ∨ o + 25 ≤ lo ∨ hi ≤ o) : pTS m' o n s := by
  have q : ∀ a k, (a = o ∨ (o + 21 ≤ a ∧ a < o + 25)) → m'.1 a k = m.1 a k := fun a k h => fz_1 f (by omega) k
  obtain ⟨a4, a5, a9, a10, al⟩ := h
  exact ⟨by rw [q _ _ (by omega)]; exact a4, by rw [q _ _ (by omega)]; exact a5, by rw [q _ _ (by omega)]; exact a9, by rw [q _ _ (by omega)]; exact a10, fun z => pF_fz (al z) f (by omega)⟩
theorem sX7_c {o : Nat} (ho : sX7 o) {k : Nat} (hk : k < 7) : sX0 (o + 25 + 5 * k) := (sX7_e1 ho k hk).2
section ZTr
variable {g : zG} {gr : Bool}
theorem k_reach7 {e : Nat} {m : zm} {Q : Option Value → zH → Prop} {o n : Nat} {l : Lf} {s : TS} (ho : sX7 o) (he : 3 ≤ e) (hn : n ≤ 7) (hp : pTR m o n s) (hh : pF m (o + 17) n l) (hl : lmk n l) (hlc : lcd n l) (hs : tft n s) (hb : t_l s + 1 ≤ 5040)
    (H : ∀ m', pTS m' o n (tl l s) → fT o m m' → Q none (mk m')) : Ok g gr e mX7_reach 0 0 [.ref o] (mk m) Q := by
  obtain ⟨d, rfl⟩ := dn he
  have x17 : sX2 (o + 17) := sX7_s2 ho
  have x21 : sX2 (o + 21) := sX7_s3 ho
  obtain ⟨p4, p5, p9, p10, pl⟩ := hp
  have hd1 := hs.2
  have hd2 := hl.1
  refine b_X7_reach_0 ho ?_
  intro m0 e0
  rw [p9, hh.1, i_max _ _ (by omega) (by omega)] at e0
  have f0 : fT o m m0 := by rw [e0]; exact fT_wI (Or.inl rfl)
  have z0 : fz o (o + 1) m m0 := fz_eI e0
  have r9 : m0.1 o 9 = nI (if t_d s < l_d l then l_d l else t_d s) := by rw [e0, rI_s]
  have q0 : ∀ k, k ≠ 9 → m0.1 o k = m.1 o k := fun k hk => by rw [e0]; exact rI_n (fun w => hk w.2)
  have hh0 := pF_fz hh z0 (by omega)
  have best : ∀ L K, (L = t_l s + 1) → (K = 1) → (∀ m', pTS m' o n (t_n s, L, (if t_d s < l_d l then l_d l else t_d s), K, l) → fT o m m' → Q none (mk m')) → ∀ m1, m1 = wI m0 (o + 21) 0 (m0.1 (o + 17) 0) → ∀ m2, m2 = wI m1 (o + 21) 1 (m1.1 (o + 17) 1) → ∀ m3, m3 = wC m2 ((o + 21) + 1) ((o + 17) + 1) 7 → ∀ m4, m4 = wC m3 ((o + 21) + 2) ((o + 17) + 2) 28 → ∀ m5, m5 = wC m4 ((o + 21) + 3) ((o + 17) + 3) 7 → Q none (mk (wI m5 o 10 (1 : Int32))) := by
    intro L K hL hK HH m1 e1 m2 e2 m3 e3 m4 e4 m5 e5
    obtain ⟨c1, c2⟩ := pF_copy (o := o + 21) (x := o + 17) hn hl.1 hh0 (by omega) e1 e2 e3 e4
    rw [← e5] at c1 c2
    have q : ∀ k, m5.1 o k = m0.1 o k := fun k => fz_1 c2 (by omega) k
    refine HH _ ⟨?_, ?_, ?_, ?_, fun _ => ?_⟩ (fT_trans f0 (fT_trans (fT_fz c2 ⟨by omega, by omega⟩) (fT_wI (Or.inr rfl))))
    · rw [rI_n (by omega), q, q0 4 (by decide)]; exact p4
    · rw [rI_n (by omega), q, q0 5 (by decide), p5, hL]
    · rw [rI_n (by omega), q]; exact r9
    · rw [rI_s, hK]; rfl
    · exact pF_fz c1 (fz_wI (lo := o) (hi := o + 1)) (by omega)
  by_cases h0 : t_l s = 0
  · have h51 : m0.1 o 5 = 1 := by rw [q0 5 (by decide), p5, h0]; rfl
    refine ⟨fun z => absurd h51 z, fun _ => best (t_l s + 1) 1 rfl rfl (fun m' a1 a2 => H m' ?_ a2)⟩
    unfold tl
    rw [if_pos (Or.inl h0)]
    exact a1
  · obtain ⟨t1, t2⟩ := hs.1 h0
    have pt := pF_fz (pl h0) z0 (by omega)
    have hn1 : ¬ m0.1 o 5 = 1 := by rw [q0 5 (by decide), p5, show (1 : Int32) = nI 1 from rfl, nI_eq (by omega) (by decide)]; omega
    refine ⟨fun _ => ?_, fun z => absurd z hn1⟩
    refine k_compare x17 x21 (by omega) hn hh0 pt hlc t2 hl t1 (fun r r1 r2 => ?_)
    refine b_X7_reach_41 ho ⟨fun w => ⟨fun w2 => ?_, fun w2 => ?_⟩, fun w => ?_⟩
    · have n1 : ¬ ky l < ky (t_t s) := fun v => (Int32.not_lt.mpr w) (r1.mpr v)
      have n2 : ¬ ky l = ky (t_t s) := fun v => w2 (r2.mpr v)
      refine H m0 ?_ f0
      unfold tl
      rw [if_neg (show ¬ (t_l s = 0 ∨ ky l < ky (t_t s)) from fun v => v.elim h0 n1), if_neg n2]
      exact ⟨by rw [q0 4 (by decide)]; exact p4, by rw [q0 5 (by decide)]; exact p5, r9, by rw [q0 10 (by decide)]; exact p10, fun _ => pt⟩
    · have n2 := r2.mp w2
      rw [q0 10 (by decide), p10, nI_1]
      refine H _ ?_ (fT_trans f0 (fT_wI (Or.inr rfl)))
      unfold tl
      rw [if_neg (show ¬ (t_l s = 0 ∨ ky l < ky (t_t s)) from fun v => v.elim h0 (by omega)), if_pos n2]
      exact ⟨by rw [rI_n (by omega), q0 4 (by decide)]; exact p4, by rw [rI_n (by omega), q0 5 (by decide)]; exact p5, by rw [rI_n (by omega)]; exact r9, rI_s, fun _ => pF_fz pt (fz_wI (lo := o) (hi := o + 1)) (by omega)⟩
    · have n1 : ky l < ky (t_t s) := r1.mp (Int32.not_le.mp w)
      refine best (t_l s + 1) 1 rfl rfl (fun m' a1 a2 => H m' ?_ a2)
      unfold tl
      rw [if_pos (Or.inr n1)]
      exact a1
theorem k_come7 {o : Nat} {G : Gr} (ho : sX7 o) (hG : gWF G) : ∀ (k e : Nat) (c : Nat → Nat) (q d : Nat) (ms : Nat → Nat) (apb bits : Nat) (s : TS) (m : zm) (Q : Option Value → zH → Prop), gn G ≤ k + d → k + 3 ≤ e → nod G c q d ms apb → tft (gn G) s → t_l (tw G k c q d ms s) ≤ 5040 → pG m (o + 1) G → pC m (o + 25 + 5 * d) (gn G) c q → (∀ i, i ≤ d → m.1 (o + 18) i = nI (ms i)) → pTS m o (gn G) s →
    (∀ m', pTS m' o (gn G) (tw G k c q d ms s) → fV o d m m' → Q none (mk m')) → Ok g gr e mX8_come 0 0 [.ref o, .int (nI d), .int (nI bits)] (mk m) Q := by
  have h7 := hG.2.1.2
  intro k
  induction k with
  | zero =>
    intro e c q d ms apb bits s m Q h1 h2 hi
    have := nod_d hG hi
    omega
  | succ k ih =>
    intro e c q d ms apb bits s m Q h1 h2 hi hsf hb hp hC hms hss H
    obtain ⟨x, rfl⟩ : ∃ x, e = x + 4 := ⟨e - 4, by omega⟩
    have hd := nod_d hG hi
    have hcw := hi.1.1
    have sX0d := sX7_c ho (show d < 7 by omega)
    refine b_X8_come_X7_0 ho ?_
    intro m1 e1
    refine ⟨pk_in d 7 (by omega), ?_⟩
    rw [nI_clamp (show d < 2 ^ 31 by omega)]
    rw [hss.1, nI_1] at e1
    have f1 : fV o d m m1 := by rw [e1]; exact fV_wI (by decide)
    have hss1 : pTS m1 o (gn G) (ts_n s) := by
      obtain ⟨a4, a5, a9, a10, al⟩ := hss
      rw [e1]
      exact ⟨rI_s, by rw [rI_n (by omega)]; exact a5, by rw [rI_n (by omega)]; exact a9, by rw [rI_n (by omega)]; exact a10, fun z => pF_fz (al z) (fz_wI (lo := o) (hi := o + 1)) (by omega)⟩
    have hC1 := pC_fV hC f1
    refine k_target sX0d (by omega) h7 hC1 (by omega) ?_
    have htl := tgm_lt (c := c) (n := gn G) (q := q) h7
    have leaf : tg c (gn G) q = 0 → ∀ m2, m2 = wI m1 o 5 ((m1.1 o 5) + (1 : Int32)) → vp_in (nI d) 7 ∧ Ok g gr (x + 3) mX2_write 0 0 [.ref (o + 17), .ref (o + 1), .ref (o + 25 + 5 * d), .int (nI d)] (mk m2) (fun r h2 => WP g gr (x + 4) mX8_come 0 0 60 [.ref o, .retAddr 0, .retAddr 0, .retAddr 0, .retAddr 0, .retAddr 0, .retAddr 0] (r.toList ++ []) h2 Q) := by
      intro h0 m2 e2
      rw [hss1.2.1, nI_1] at e2
      have f2 : fV o d m1 m2 := by rw [e2]; exact fV_wI (by decide)
      have hsr : pTR m2 o (gn G) (ts_n s) := by
        obtain ⟨a4, a5, a9, a10, al⟩ := hss1
        rw [e2]
        exact ⟨by rw [rI_n (by omega)]; exact a4, rI_s, by rw [rI_n (by omega)]; exact a9, by rw [rI_n (by omega)]; exact a10, fun z => pF_fz (al z) (fz_wI (lo := o) (hi := o + 1)) (by omega)⟩
      have f12 := fV_trans f1 f2
      refine ⟨pk_in d 7 (by omega), k_write (sX7_s2 ho) (sX7_s0 ho) sX0d (by omega) hG (pG_fV hp f12) (pC_fV hC f12) hcw h0 (by omega) (by omega) (fun i hi2 => by rw [f12.2.1 i hi2]; exact hms i hi2) (fun m3 w1 w2 => ?_)⟩
      have hm3 : ∀ i, i ≤ d → m3.1 (o + 18) i = m.1 (o + 18) i := fun i hi2 => by rw [hms i hi2]; exact w1.2.2.1 i hi2
      have f3 : fV o d m2 m3 := ⟨fun a ha => w2 a (by omega), fun i hi2 => by rw [hm3 i hi2, f12.2.1 i hi2], fz_1 w2 (by omega) 8⟩
      have hsr3 : pTR m3 o (gn G) (ts_n s) := by
        have q9 : ∀ a k, (a = o ∨ (o + 21 ≤ a ∧ a < o + 25)) → m3.1 a k = m2.1 a k := fun a k h => fz_1 w2 (by omega) k
        obtain ⟨a4, a5, a9, a10, al⟩ := hsr
        exact ⟨by rw [q9 _ _ (by omega)]; exact a4, by rw [q9 _ _ (by omega)]; exact a5, by rw [q9 _ _ (by omega)]; exact a9, by rw [q9 _ _ (by omega)]; exact a10, fun z => pF_fz (al z) w2 (by omega)⟩
      refine b_X8_come_X7_60 ho ?_
      have hb' : t_l (ts_n s) + 1 ≤ 5040 := by
        rw [tw_succ, if_pos h0, tl_l] at hb
        exact hb
      refine k_reach7 ho (by omega) h7 hsr3 w1 (lmk_mkl hG hi h0) (lcd_cd hG.1 _ _ _) hsf hb' (fun m4 r1 r2 => ?_)
      refine b_X8_come_X7_64 (H m4 ?_ (fV_trans (fV_trans f12 f3) (fV_fT r2)))
      rw [tw_succ, if_pos h0]
      exact r1
    refine b_X8_come_X7_19 ho (pk_eq (tgm c (gn G) q) 0 (fun z => ?_) (fun z => ?_))
    · rw [nI_clamp (show d < 2 ^ 31 by omega)]
      exact leaf (tgm_0.mp z)
    · have h0 : tg c (gn G) q ≠ 0 := fun w => z (tgm_0.mpr w)
      have hqn : q < gn G := by
        rcases Nat.lt_or_ge q (gn G) with w | w
        · exact w
        · have : q = gn G := by omega
          rw [this] at hcw h0
          exact absurd (tg_full hcw) h0
      rw [nI_1]
      refine pk_lt (d + 1) 7 (fun _ => ⟨pk_in (d + 1) 7 (by omega), ?_⟩) (fun w => by omega)
      rw [nI_clamp (show d + 1 < 2 ^ 31 by omega)]
      have sX0y := sX7_c ho (show d + 1 < 7 by omega)
      rw [tw_succ, if_neg h0] at hb
      let B := twb G k c q d ms
      refine up_to (n := gn G) (P := fun v => ∀ m' lk, pTS m' o (gn G) (it B v (ts_n s)) → tft (gn G) (it B v (ts_n s)) → fV o d m m' → WP g gr (x + 4) mX8_come 0 0 81 [.ref o, .int (nI d), .int (nI bits), .int (nI (tgm c (gn G) q)), .ref (o + 25 + 5 * (d + 1)), .int (nI lk), .int (nI v)] [] (mk m') Q) ?_ ?_ 0 (Nat.zero_le _) m1 0 hss1 hsf f1
      · intro m' lk a1 a3 a5
        have hp' := pG_fV hp a5
        refine b_X8_come_X7_81 ho sX0y (pk_le (gn G) (gn G) (fun _ => H m' ?_ a5) (fun w => absurd w (Nat.lt_irrefl _)) hp'.1)
        rw [tw_succ, if_neg h0]
        exact a1
      · intro v hv ihv m' lk a1 a3 a5
        have hp' := pG_fV hp a5
        have hC' := pC_fV hC a5
        have ev : it B (v + 1) (ts_n s) = B v (it B v (ts_n s)) := rfl
        have hbv : t_l (it B (v + 1) (ts_n s)) ≤ 5040 := by
          have := itw_mono hG (k := k) hi h0 (ts_n s) (gn G - (v + 1)) (v + 1) (by omega)
          rw [show v + 1 + (gn G - (v + 1)) = gn G by omega] at this
          exact Nat.le_trans this hb
        rw [ev] at ihv hbv
        generalize hx : it B v (ts_n s) = y at *
        refine b_X8_come_X7_81 ho sX0y (pk_le (gn G) v (fun w => by omega) (fun _ => ?_) hp'.1)
        rw [i_in (by omega) (by omega), tgm_bit hv, nI_1]
        refine ⟨fun hin => ?_, fun hin => ?_⟩
        · have hcv := hin.2
          have hcz := cz_tg h0 hcv
          refine ⟨pk_in d 7 (by omega), ?_⟩
          rw [nI_clamp (show d < 2 ^ 31 by omega), i_sh1 (by omega), fa_or]
          intro m2 e2 m3 e3 m4 e4
          have f2 : fz (o + 25 + 5 * (d + 1)) (o + 30 + 5 * (d + 1)) m' m2 := fz_eI e2
          have f3 : fz (o + 25 + 5 * (d + 1)) (o + 30 + 5 * (d + 1)) m2 m3 := fz_eI e3
          have f4 : fz (o + 25 + 5 * (d + 1)) (o + 30 + 5 * (d + 1)) m3 m4 := by rw [e4]; exact fz_wC
          have f24 := fz_trans f2 (fz_trans f3 f4)
          have hC4 : pC m4 (o + 25 + 5 * (d + 1)) (gn G) c q := ⟨by rw [e4, wC_1, if_neg (by omega), e3, rI_n (by omega), e2, rI_s]; exact hC'.1, fun j hj => by rw [e4, wC_1, if_pos ⟨rfl, by omega⟩, e3, rI_n (by omega), e2, rI_n (by omega)]; exact hC'.2 j hj⟩
          refine k_putAhead sX0y (by omega) h7 hC4 hcw hv (fun m5 g1 g2 g3 => ?_)
          have hpa : pa c (gn G) v = ap c v := by unfold pa; rw [if_pos hcz]
          have hpq : paq c (gn G) v q = q + 1 := by unfold paq; rw [if_pos hcz]
          rw [hpa, hpq] at g1
          have f25 : fz (o + 25 + 5 * (d + 1)) (o + 30 + 5 * (d + 1)) m' m5 := fz_trans f24 (fz_mono g3)
          refine b_X8_come_X7_157 ho sX0y ?_
          have hp5 := pG_fz hp' f25 (by omega)
          refine k_refine sX0y (sX7_s0 ho) (by omega) hG hp5 (by omega) (ap_cwf hcw hv hcz) (by omega) g1 (fun m6 r1 r2 r3 => ?_)
          have f26 : fz (o + 25 + 5 * (d + 1)) (o + 30 + 5 * (d + 1)) m' m6 := fz_trans f25 (fz_mono r3)
          obtain ⟨n1, n2, n3, n4, n5⟩ := nx_all hG hcw hv h0 hcv
          refine b_X8_come_X7_166 ho sX0y ?_
          refine k_mark sX0y (by omega) h7 r1 (by show (nx G c q v).2.1 ≤ 7; omega) r2 ?_
          refine b_X8_come_X7_181 ho sX0y (sX2_s2 (sX7_s2 ho)) ⟨by rw [nI_1]; exact pk_in (d + 1) 7 (by omega), ?_⟩
          rw [nI_1, nI_clamp (show d + 1 < 2 ^ 31 by omega), i_sh1 (by omega), fa_or]
          intro m7 e7
          have hnod := nod_nx hG hi hv h0 hcv
          have hm7 : ∀ i, i ≤ d + 1 → m7.1 (o + 18) i = nI (msn G c q v d ms i) := fun i hi2 => by
            rw [e7]
            unfold msn
            by_cases w : i = d + 1
            · subst w; rw [rI_s, if_pos rfl]; rfl
            · rw [rI_n (fun z => w z.2), if_neg w, fz_1 f26 (by omega), a5.2.1 i (by omega)]
              exact hms i (by omega)
          have fV7 : fV o d m' m7 := fV_trans (fV_fz f26 (by omega) (by omega)) (by rw [e7]; exact fV_mark (by omega))
          have hss7 : pTS m7 o (gn G) y := pTS_fz (pTS_fz a1 f26 (by omega)) (show fz (o + 17) (o + 21) m6 m7 by rw [e7]; exact fz_wI) (by omega)
          have eB : B v y = tw G k (nx G c q v).1 (nx G c q v).2.1 (d + 1) (msn G c q v d ms) y := by show (if _ then _ else _) = _; rw [if_pos hcv]
          rw [eB] at ihv hbv
          have r1' : pC m7 (o + 25 + 5 * (d + 1)) (gn G) (nx G c q v).1 (nx G c q v).2.1 := pC_fz r1 (show fz (o + 17) (o + 21) m6 m7 by rw [e7]; exact fz_wI) (by omega)
          refine ih (x + 3) _ _ (d + 1) _ (apb ||| 2 ^ v) _ y m7 _ (by omega) (by omega) hnod a3 hbv (pG_fV hp' fV7) r1' hm7 hss7 (fun m8 c1 c2 => ?_)
          refine b_X8_come_X7_218 ho sX0y ?_
          rw [nI_1]
          exact ihv m8 _ c1 (tw_tft hG hnod a3) (fV_trans a5 (fV_trans fV7 (fV_mono c2 (by omega))))
        · have eB : B v y = y := by show (if _ then _ else _) = _; rw [if_neg (fun w => hin ⟨h0, w⟩)]
          rw [eB] at ihv
          exact ihv m' lk a1 a3 a5
end ZTr
