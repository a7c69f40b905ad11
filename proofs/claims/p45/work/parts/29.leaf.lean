/-! the class Leaf -/
def pF (m : zm) (o n : Nat) (l : Lf) : Prop := m.1 o 0 = nI (l_d l) ∧ m.1 o 1 = nI (cln n) ∧ (∀ i, i ≤ l_d l → m.1 (o + 1) i = nI (l_m l i)) ∧ (∀ i, i < cln n → m.1 (o + 2) i = nI (l_c l i)) ∧ ∀ j, j < n → m.1 (o + 3) j = nI (l_a l j)
theorem pF_fz {lo hi : Nat} {m m' : zm} {o n : Nat} {l : Lf} (h : pF m o n l) (f : fz lo hi m m') (d : o + 4 ≤ lo ∨ hi ≤ o) : pF m' o n l :=
  ⟨by rw [fz_1 f (by omega)]; exact h.1, by rw [fz_1 f (by omega)]; exact h.2.1, fun i hi => by rw [fz_1 f (by omega)]; exact h.2.2.1 i hi, fun i hi => by rw [fz_1 f (by omega)]; exact h.2.2.2.1 i hi, fun j hj => by rw [fz_1 f (by omega)]; exact h.2.2.2.2 j hj⟩
/-- what the marks of a leaf are like -/
def lmk (n : Nat) (l : Lf) : Prop := l_d l ≤ 6 ∧ (∀ i, i < l_d l → l_m l i < 10 ^ n) ∧ 10 ^ n ≤ l_m l (l_d l) ∧ (∀ i, l_d l < i → l_m l i = 0) ∧ ∀ i, l_m l i < 100000000
/-- what the code of a leaf is like -/
def lcd (n : Nat) (l : Lf) : Prop := (∀ i, l_c l i < 10) ∧ ∀ i, cln n ≤ i → l_c l i = 0
def kc (l : Lf) : Nat := nm 10 (l_c l) 28
theorem kc_lt {n : Nat} {l : Lf} (h : lcd n l) : kc l < 10 ^ 28 := nm_lt fun i _ => h.1 i
theorem cln_inj : ∀ n, n ≤ 7 → ∀ n', n' ≤ 7 → (cln n = cln n' ↔ n = n') ∧ (cln n < cln n' ↔ n < n') := by decide +kernel
theorem cmp_lt {a b : Nat} (ha : a < 2 ^ 31) (hb : b < 2 ^ 31) : (fCmp (nI a) (nI b) < 0 ↔ a < b) ∧ (fCmp (nI a) (nI b) = 0 ↔ a = b) := by
  unfold fCmp
  rcases Nat.lt_trichotomy a b with h | h | h
  · rw [if_neg (show ¬ nI b ≤ nI a by rw [nI_leI hb ha]; omega)]
    exact ⟨⟨fun _ => h, fun _ => by decide⟩, ⟨fun z => absurd z (by decide), fun z => by omega⟩⟩
  · subst h
    rw [if_pos (show nI a ≤ nI a by rw [nI_leI ha ha]; omega), if_pos rfl]
    exact ⟨⟨fun z => absurd z (by decide), fun z => by omega⟩, ⟨fun _ => rfl, fun _ => rfl⟩⟩
  · rw [if_pos (show nI b ≤ nI a by rw [nI_leI hb ha]; omega), if_neg (show ¬ nI a = nI b by rw [nI_eq ha hb]; omega)]
    exact ⟨⟨fun z => absurd z (by decide), fun z => by omega⟩, ⟨fun z => absurd z (by decide), fun z => by omega⟩⟩
theorem ky_mark {n : Nat} {l l' : Lf} (hc : lcd n l) (hm : ∀ i, l_m l i < 100000000) {i : Nat} (hi : i < 7) (he : ∀ j, j < i → l_m l j = l_m l' j) (hl : l_m l i < l_m l' i) : ky l < ky l' := by
  have h1 := nm_lx (fun i _ => hm i) hi he hl
  have h2 := kc_lt hc
  unfold kc at h2
  unfold ky
  have := Nat.mul_le_mul_right (10 ^ 28) (show nm 100000000 (l_m l) 7 + 1 ≤ nm 100000000 (l_m l') 7 from h1)
  rw [Nat.add_mul] at this
  omega
theorem ky_same {l l' : Lf} (he : ∀ j, j < 7 → l_m l j = l_m l' j) : (ky l < ky l' ↔ kc l < kc l') ∧ (ky l = ky l' ↔ kc l = kc l') := by
  have : nm 100000000 (l_m l) 7 = nm 100000000 (l_m l') 7 := nm_cong he
  unfold ky kc
  rw [this]
  omega
/-- a row begins with the numbers of a list -/
def rowL (f : Nat → Int32) (L : List Nat) : Prop := ∀ i, i < L.length → f i = nI (L.getD i 0)
theorem rowL_app {f f' : Nat → Int32} {L : List Nat} {x : Nat} (h : rowL f L) (hx : f' L.length = nI x) (ho : ∀ i, i < L.length → f' i = f i) : rowL f' (L ++ [x]) := fun i hi => by
  rw [List.length_append] at hi
  have hi : i < L.length + 1 := hi
  rw [List.getD_eq_getElem?_getD]
  by_cases e : i = L.length
  · subst e
    rw [List.getElem?_append_right (Nat.le_refl _), Nat.sub_self]
    exact hx
  · rw [List.getElem?_append_left (by omega), ho i (by omega), h i (by omega), List.getD_eq_getElem?_getD]
theorem lcd_cd {G : Gr} (hG : gOK G) (a : Nat → Nat) (d : Nat) (ms : Nat → Nat) : lcd (gn G) (d, ms, cd G a, a) := ⟨fun i => cd_lt hG a i, fun i hi => by
  show (cdl G a).getD i 0 = 0
  rw [List.getD_eq_getElem?_getD, List.getElem?_eq_none (by rw [cdl_len]; exact hi)]; rfl⟩
section ZLf
variable {g : zG} {gr : Bool} {e : Nat} {m : zm} {Q : Option Value → zH → Prop}
theorem k_compareCodes {o x n n' : Nat} {l l' : Lf} (ho : sX2 o) (hx : sX2 x) (he : 1 ≤ e) (hn : n ≤ 7) (hn' : n' ≤ 7) (hp : pF m o n l) (hq : pF m x n' l') (hl : lcd n l) (hl' : lcd n' l')
    (H : ∀ r : Int32, (r < 0 ↔ (n < n' ∨ (n = n' ∧ kc l < kc l'))) → (r = 0 ↔ (n = n' ∧ kc l = kc l')) → Q (some (.int r)) (mk m)) : Ok g gr e mX2_compareCodes 0 0 [.ref o, .ref x] (mk m) Q := by
  obtain ⟨d, rfl⟩ := dn he
  have b1 := (cln_tab n hn).2
  have b2 := (cln_tab n' hn').2
  obtain ⟨c1, c2⟩ := cln_inj n hn n' hn'
  refine b_X2_compareCodes_0 ho hx (pk_eq (cln n) (cln n') (fun z => ?_) (fun z => ?_) hp.2.1 hq.2.1)
  · have en : n = n' := c1.mp z
    subst en
    refine up_to (n := cln n) (P := fun i => (∀ j, j < i → l_c l j = l_c l' j) → WP g gr (d + 1) mX2_compareCodes 0 0 25 [.ref o, .ref x, .int (nI i)] [] (mk m) Q) ?_ ?_ 0 (Nat.zero_le _) (fun j hj => absurd hj (Nat.not_lt_zero _))
    · intro hs
      refine b_X2_compareCodes_25 ho hx (pk_le (cln n) (cln n) (fun _ => ?_) (fun z => absurd z (Nat.lt_irrefl _)) hp.2.1)
      have : kc l = kc l' := nm_cong fun i hi => by
        by_cases z : i < cln n
        · exact hs i z
        · rw [hl.2 i (by omega), hl'.2 i (by omega)]
      exact H 0 ⟨fun z => absurd z (by decide), fun z => by omega⟩ ⟨fun _ => ⟨rfl, this⟩, fun _ => rfl⟩
    · intro i hi ih hs
      refine b_X2_compareCodes_25 ho hx (pk_le (cln n) i (fun z => by omega) (fun _ => ⟨pk_in i 28 (by omega), ?_⟩) hp.2.1)
      rw [nI_clamp (show i < 2 ^ 31 by omega), hp.2.2.2.1 i hi, hq.2.2.2.1 i hi, nI_1]
      have d1 := hl.1 i
      have d2 := hl'.1 i
      refine pk_eq (l_c l i) (l_c l' i) (fun z => ih fun j hj => ?_) (fun z => ?_)
      · by_cases w : j = i
        · subst w; exact z
        · exact hs j (by omega)
      · obtain ⟨r1, r2⟩ := cmp_lt (a := l_c l i) (b := l_c l' i) (by omega) (by omega)
        refine H _ ?_ ?_
        · rw [r1]
          rcases Nat.lt_or_ge (l_c l i) (l_c l' i) with w | w
          · have : kc l < kc l' := nm_lx (fun i _ => hl.1 i) (show i < 28 by omega) hs w
            omega
          · have : kc l' < kc l := nm_lx (fun i _ => hl'.1 i) (show i < 28 by omega) (fun j hj => (hs j hj).symm) (by omega)
            omega
        · rw [r2]
          rcases Nat.lt_or_ge (l_c l i) (l_c l' i) with w | w
          · have : kc l < kc l' := nm_lx (fun i _ => hl.1 i) (show i < 28 by omega) hs w
            omega
          · have : kc l' < kc l := nm_lx (fun i _ => hl'.1 i) (show i < 28 by omega) (fun j hj => (hs j hj).symm) (by omega)
            omega
  · rw [hp.2.1, hq.2.1]
    obtain ⟨r1, r2⟩ := cmp_lt (a := cln n) (b := cln n') (by omega) (by omega)
    refine H _ ?_ ?_
    · rw [r1, c2]; have := c1.mpr; omega
    · rw [r2, c1]; have := c1.mpr; omega
theorem k_compare {o x n : Nat} {l l' : Lf} (ho : sX2 o) (hx : sX2 x) (he : 2 ≤ e) (hn : n ≤ 7) (hp : pF m o n l) (hq : pF m x n l') (hl : lcd n l) (hl' : lcd n l') (hm : lmk n l) (hm' : lmk n l')
    (H : ∀ r : Int32, (r < 0 ↔ ky l < ky l') → (r = 0 ↔ ky l = ky l') → Q (some (.int r)) (mk m)) : Ok g gr e mX2_compare 0 0 [.ref o, .ref x] (mk m) Q := by
  obtain ⟨d, rfl⟩ := dn he
  have a1 := hm.1
  have a2 := hm'.1
  refine b_X2_compare_0 ho hx ?_
  rw [hp.1, hq.1, i_min _ _ (by omega) (by omega)]
  generalize hmin : (if l_d l' < l_d l then l_d l' else l_d l) = t
  have ht : t ≤ l_d l ∧ t ≤ l_d l' ∧ (t = l_d l ∨ t = l_d l') := by
    by_cases z : l_d l' < l_d l
    · rw [if_pos z] at hmin; omega
    · rw [if_neg z] at hmin; omega
  refine up_to (n := t + 1) (P := fun i => (∀ j, j < i → l_m l j = l_m l' j) → WP g gr (d + 2) mX2_compare 0 0 14 [.ref o, .ref x, .int (nI t), .int (nI i)] [] (mk m) Q) ?_ ?_ 0 (Nat.zero_le _) (fun j hj => absurd hj (Nat.not_lt_zero _))
  · intro hs
    have ed : l_d l = l_d l' := by
      apply Classical.byContradiction
      intro hne
      rcases Nat.lt_trichotomy (l_d l) (l_d l') with z | z | z
      · have := hm'.2.1 (l_d l) z
        have := hs (l_d l) (by omega)
        have := hm.2.2.1
        omega
      · exact hne z
      · have := hm.2.1 (l_d l') z
        have := hs (l_d l') (by omega)
        have := hm'.2.2.1
        omega
    obtain ⟨k1, k2⟩ := ky_same (l := l) (l' := l') (fun j _ => by
      by_cases z : j < t + 1
      · exact hs j z
      · rw [hm.2.2.2.1 j (by omega), hm'.2.2.2.1 j (by omega)])
    refine b_X2_compare_14 ho hx (pk_lt t (t + 1) (fun _ => ?_) (fun z => by omega))
    refine k_compareCodes ho hx (by omega) hn hn hp hq hl hl' (fun r r1 r2 => ?_)
    refine b_X2_compare_61 (H r ?_ ?_)
    · rw [r1, k1]; omega
    · rw [r2, k2]; omega
  · intro i hi ih hs
    refine b_X2_compare_14 ho hx (pk_lt t i (fun z => by omega) (fun _ => ⟨pk_in i 7 (by omega), ?_⟩))
    rw [nI_clamp (show i < 2 ^ 31 by omega), hp.2.2.1 i (by omega), hq.2.2.1 i (by omega), nI_1]
    have d1 := hm.2.2.2.2 i
    have d2 := hm'.2.2.2.2 i
    refine pk_eq (l_m l i) (l_m l' i) (fun z => ih fun j hj => ?_) (fun z => ?_)
    · by_cases w : j = i
      · subst w; exact z
      · exact hs j (by omega)
    · obtain ⟨r1, r2⟩ := cmp_lt (a := l_m l i) (b := l_m l' i) (by omega) (by omega)
      rcases Nat.lt_or_ge (l_m l i) (l_m l' i) with w | w
      · have := ky_mark hl hm.2.2.2.2 (show i < 7 by omega) hs w
        refine H _ ?_ ?_
        · rw [r1]; omega
        · rw [r2]; omega
      · have := ky_mark hl' hm'.2.2.2.2 (show i < 7 by omega) (fun j hj => (hs j hj).symm) (show l_m l' i < l_m l i by omega)
        refine H _ ?_ ?_
        · rw [r1]; omega
        · rw [r2]; omega
/-- a leaf copied, by its memories -/
theorem pF_copy {o x n : Nat} {l : Lf} {m m1 m2 m3 m4 : zm} (hn : n ≤ 7) (hd : l_d l ≤ 6) (hq : pF m x n l) (ha : o + 4 ≤ x ∨ x + 4 ≤ o) (e1 : m1 = wI m o 0 (m.1 x 0)) (e2 : m2 = wI m1 o 1 (m1.1 x 1)) (e3 : m3 = wC m2 (o + 1) (x + 1) 7) (e4 : m4 = wC m3 (o + 2) (x + 2) 28) : pF (wC m4 (o + 3) (x + 3) 7) o n l ∧ fz o (o + 4) m (wC m4 (o + 3) (x + 3) 7) := by
  have b1 := (cln_tab n hn).2
  refine ⟨⟨?_, ?_, fun i hi => ?_, fun i hi => ?_, fun j hj => ?_⟩, ?_⟩
  · rw [wC_1, if_neg (by omega), e4, wC_1, if_neg (by omega), e3, wC_1, if_neg (by omega), e2, rI_n (by omega), e1, rI_s]; exact hq.1
  · rw [wC_1, if_neg (by omega), e4, wC_1, if_neg (by omega), e3, wC_1, if_neg (by omega), e2, rI_s, e1, rI_n (by omega)]; exact hq.2.1
  · rw [wC_1, if_neg (by omega), e4, wC_1, if_neg (by omega), e3, wC_1, if_pos ⟨rfl, by omega⟩, e2, rI_n (by omega), e1, rI_n (by omega)]; exact hq.2.2.1 i hi
  · rw [wC_1, if_neg (by omega), e4, wC_1, if_pos ⟨rfl, by omega⟩, e3, wC_1, if_neg (by omega), e2, rI_n (by omega), e1, rI_n (by omega)]; exact hq.2.2.2.1 i hi
  · rw [wC_1, if_pos ⟨rfl, by omega⟩, e4, wC_1, if_neg (by omega), e3, wC_1, if_neg (by omega), e2, rI_n (by omega), e1, rI_n (by omega)]; exact hq.2.2.2.2 j hj
  · have f3 : fz o (o + 4) m2 m3 := by rw [e3]; exact fz_wC
    have f4 : fz o (o + 4) m3 m4 := by rw [e4]; exact fz_wC
    exact fz_trans (fz_eI e1) (fz_trans (fz_eI e2) (fz_trans f3 (fz_trans f4 fz_wC)))
theorem k_take2 {o x n : Nat} {l : Lf} (ho : sX2 o) (hx : sX2 x) (he : 2 ≤ e) (hn : n ≤ 7) (hd : l_d l ≤ 6) (hq : pF m x n l) (ha : o + 4 ≤ x ∨ x + 4 ≤ o) (H : ∀ m', pF m' o n l → fz o (o + 4) m m' → Q none (mk m')) : Ok g gr e mX2_take 0 0 [.ref o, .ref x] (mk m) Q := by
  obtain ⟨d, rfl⟩ := dn he
  refine b_X2_take_0 ho hx ?_
  intro m1 e1 m2 e2 m3 e3 m4 e4
  obtain ⟨h1, h2⟩ := pF_copy hn hd hq ha e1 e2 e3 e4
  exact H _ h1 h2
theorem k_write {o x y q t : Nat} {G : Gr} {c ms : Nat → Nat} (ho : sX2 o) (hx : sX1 x) (hy : sX0 y) (he : 1 ≤ e) (hG : gWF G) (hp : pG m x G) (hC : pC m y (gn G) c q) (hc : cwf (gn G) c q) (h0 : tg c (gn G) q = 0) (dx : o + 4 ≤ x ∨ x + 15 ≤ o) (dy : o + 4 ≤ y ∨ y + 5 ≤ o) (hms : ∀ i, i ≤ t → m.1 (o + 1) i = nI (ms i))
    (H : ∀ m', pF m' o (gn G) (mkl G c t ms) → fz o (o + 4) m m' → Q none (mk m')) : Ok g gr e mX2_write 0 0 [.ref o, .ref x, .ref y, .int (nI t)] (mk m) Q := by
  obtain ⟨d, rfl⟩ := dn he
  have h7 := hG.2.1.2
  have hq := disc_q hc h0
  have hvp := vi_pe hc h0
  let a := vi c (gn G)
  have ha : ∀ j, j < gn G → a j < gn G := hvp.1.1
  have hset : ∀ j, j < gn G → m.1 (y + 1) j = nI (2 ^ a j) := fun j hj => by
    rw [hC.2 j (by omega), ← bm_one (ha j hj)]
    congr 1
    refine bm_cong fun v hv => ?_
    have sp := vi_spec (hc.2 j (by omega))
    by_cases z : c v = j
    · have : v = a j := by rw [← z]; exact (hvp.2 v hv).symm
      rw [bq_t z, bq_t this]
    · have : v ≠ a j := fun w => z (by rw [w]; exact sp.2)
      rw [bq_f z, bq_f this]
  have a7 : ∀ v, v < 7 → v &&& 7 = v := by decide
  have cl28 : ∀ L : List Nat, L.length ≤ cln (gn G) → L.length ≤ 28 := fun L h => by have := (cln_tab (gn G) h7).2; omega
  refine b_X2_write_0 ho hx hy ?_
  intro m1 e1
  have hA : ∀ k, k ≤ gn G → (cdA G a k).length ≤ cln (gn G) := fun k hk => by rw [cdA_len]; unfold cln; omega
  refine up_to (n := gn G) (P := fun k => ∀ m', m'.1 o 0 = nI t → m'.1 o 1 = nI k → rowL (m'.1 (o + 2)) (cdA G a k) → (∀ j, j < k → m'.1 (o + 3) j = nI (a j)) → m'.1 (o + 1) = m.1 (o + 1) → fz o (o + 4) m m' → WP g gr (d + 1) mX2_write 0 0 13 [.ref o, .ref x, .ref y, .retAddr 0, .int (nI k), .retAddr 0] [] (mk m') Q) ?_ ?_ 0 (Nat.zero_le _) _ (by rw [rI_n (by omega), e1, rI_s]) rI_s (fun i hi => absurd hi (Nat.not_lt_zero _)) (fun j hj => absurd hj (Nat.not_lt_zero _)) (by funext i; rw [rI_n (by omega), e1, rI_n (by omega)]) (fz_trans (fz_eI e1) fz_wI)
  · intro m2 b1 b2 b3 b4 b5 b6
    have px := pG_fz hp b6 (by omega)
    refine b_X2_write_13 ho hx hy (pk_le (gn G) (gn G) (fun _ => ?_) (fun z => absurd z (Nat.lt_irrefl _)) px.1)
    have hB : ∀ i d', i < gn G → d' ≤ gn G - 1 - i → (cdA G a (gn G) ++ (cdB G a i ++ cdR G a i d')).length ≤ cln (gn G) := fun i d' hi hd' => by
      rw [List.length_append, List.length_append, cdA_len, cdB_len, cdR_len]
      unfold cln
      have := fb_sm_part (fun i => gn G - 1 - i) hi
      omega
    refine up_to (n := gn G) (P := fun i => ∀ m', m'.1 o 0 = nI t → m'.1 o 1 = nI (cdA G a (gn G) ++ cdB G a i).length → rowL (m'.1 (o + 2)) (cdA G a (gn G) ++ cdB G a i) → (∀ j, j < gn G → m'.1 (o + 3) j = nI (a j)) → m'.1 (o + 1) = m.1 (o + 1) → fz o (o + 4) m m' → WP g gr (d + 1) mX2_write 0 0 99 [.ref o, .ref x, .retAddr 0, .retAddr 0, .int (nI i), .retAddr 0] [] (mk m') Q) ?_ ?_ 0 (Nat.zero_le _) m2 b1 (by rw [b2]; congr 1; show gn G = (cdA G a (gn G) ++ []).length; rw [List.append_nil, cdA_len]) (by show rowL _ (cdA G a (gn G) ++ []); rw [List.append_nil]; exact b3) b4 b5 b6
    · intro m3 c1 c2 c3 c4 c5 c6
      have px3 := pG_fz hp c6 (by omega)
      refine b_X2_write_99 ho hx (pk_le (gn G) (gn G) (fun _ => H m3 ⟨c1, ?_, fun i hi => ?_, fun i hi => ?_, c4⟩ c6) (fun z => absurd z (Nat.lt_irrefl _)) px3.1)
      · rw [c2, ← cdl_len G a]; rfl
      · rw [c5]; exact hms i hi
      · exact c3 i (by show i < (cdl G a).length; rw [cdl_len]; exact hi)
    · intro i hi ih m3 c1 c2 c3 c4 c5 c6
      have px3 := pG_fz hp c6 (by omega)
      refine b_X2_write_99 ho hx (pk_le (gn G) i (fun z => by omega) (fun _ => ?_) px3.1)
      rw [nI_1]
      refine up_to (n := gn G - 1 - i) (P := fun d' => ∀ m', m'.1 o 0 = nI t → m'.1 o 1 = nI (cdA G a (gn G) ++ (cdB G a i ++ cdR G a i d')).length → rowL (m'.1 (o + 2)) (cdA G a (gn G) ++ (cdB G a i ++ cdR G a i d')) → (∀ j, j < gn G → m'.1 (o + 3) j = nI (a j)) → m'.1 (o + 1) = m.1 (o + 1) → fz o (o + 4) m m' → WP g gr (d + 1) mX2_write 0 0 114 [.ref o, .ref x, .retAddr 0, .retAddr 0, .int (nI i), .int (nI (i + 1 + d'))] [] (mk m') Q) ?_ ?_ 0 (Nat.zero_le _) m3 c1 (by rw [c2]; show _ = nI (cdA G a (gn G) ++ (cdB G a i ++ [])).length; rw [List.append_nil]) (by show rowL _ (cdA G a (gn G) ++ (cdB G a i ++ [])); rw [List.append_nil]; exact c3) c4 c5 c6
      · intro m4 d1 d2 d3 d4 d5 d6
        have px4 := pG_fz hp d6 (by omega)
        refine b_X2_write_114 ho hx (pk_le (gn G) (i + 1 + (gn G - 1 - i)) (fun _ => ?_) (fun z => by omega) px4.1)
        rw [nI_1]
        exact ih m4 d1 d2 d3 d4 d5 d6
      · intro d' hd' ih2 m4 d1 d2 d3 d4 d5 d6
        have px4 := pG_fz hp d6 (by omega)
        have hj : i + 1 + d' < gn G := by omega
        have hlen := hB i (d' + 1) hi (by omega)
        have elen : (cdA G a (gn G) ++ (cdB G a i ++ cdR G a i (d' + 1))).length = (cdA G a (gn G) ++ (cdB G a i ++ cdR G a i d')).length + 1 := by
          rw [List.length_append, List.length_append, List.length_append, List.length_append, cdR_len, cdR_len]; omega
        have hl28 := cl28 _ hlen
        have ai := ha i hi
        have aj := ha _ hj
        refine b_X2_write_114 ho hx (pk_le (gn G) (i + 1 + d') (fun z => by omega) (fun _ => ⟨pk_in i 7 (by omega), ?_⟩) px4.1)
        rw [nI_clamp (show i < 2 ^ 31 by omega), nI_clamp (show i + 1 + d' < 2 ^ 31 by omega), d4 i hi, d4 _ hj, d2]
        refine ⟨pk_in (a i) 7 (by omega), pk_in (i + 1 + d') 7 (by omega), pk_in (a (i + 1 + d')) 7 (by omega), pk_in _ 28 (show (cdA G a (gn G) ++ (cdB G a i ++ cdR G a i d')).length < 28 by omega), ?_⟩
        rw [nI_clamp (show a i < 2 ^ 31 by omega), nI_clamp (show a (i + 1 + d') < 2 ^ 31 by omega), nI_clamp (show (cdA G a (gn G) ++ (cdB G a i ++ cdR G a i d')).length < 2 ^ 31 by omega), px4.2.2.1 _ _ (by omega) (by omega)]
        intro m5 e5
        have r1 : m5.1 o 1 = nI (cdA G a (gn G) ++ (cdB G a i ++ cdR G a i d')).length := by rw [e5, rI_n (by omega)]; exact d2
        rw [r1, nI_1, nI_1]
        refine ih2 _ (by rw [rI_n (by omega), e5, rI_n (by omega)]; exact d1) (by rw [rI_s, elen]) ?_ (fun j hj => by rw [rI_n (by omega), e5, rI_n (by omega)]; exact d4 j hj) (by funext j; rw [rI_n (by omega), e5, rI_n (by omega), d5]) (fz_trans d6 (fz_trans (fz_eI e5) fz_wI))
        have eL : cdA G a (gn G) ++ (cdB G a i ++ cdR G a i (d' + 1)) = (cdA G a (gn G) ++ (cdB G a i ++ cdR G a i d')) ++ [gk G (a i) (a (i + 1 + d'))] := by
          show cdA G a (gn G) ++ (cdB G a i ++ (cdR G a i d' ++ [_])) = _
          rw [List.append_assoc, List.append_assoc]
        rw [eL]
        refine rowL_app d3 ?_ (fun j hj => ?_)
        · rw [rI_n (by omega), e5, rI_s]
        · rw [rI_n (by omega), e5, rI_n (by omega)]
  · intro k hk ih m2 b1 b2 b3 b4 b5 b6
    have px := pG_fz hp b6 (by omega)
    have ak := ha k hk
    have hl28 := cl28 _ (hA (k + 1) hk)
    rw [cdA_len] at hl28
    refine b_X2_write_13 ho hx hy (pk_le (gn G) k (fun z => by omega) (fun _ => ⟨pk_in k 7 (by omega), ?_⟩) px.1)
    rw [nI_clamp (show k < 2 ^ 31 by omega), fz_1 b6 (show y + 1 < o ∨ o + 4 ≤ y + 1 by omega), hset k hk, i_tz _ (by omega), show (7 : Int32) = nI 7 from rfl, fa_and, a7 _ (by omega)]
    refine pk_le (gn G) (a k) (fun z => by omega) (fun _ => ?_) px.1
    intro m3 e3
    have r3 : m3.1 (o + 3) k = nI (a k) := by rw [e3, rI_s]
    have r1 : m3.1 o 1 = nI k := by rw [e3, rI_n (by omega)]; exact b2
    have rc : m3.1 (x + 1) (a k) = nI (gc G (a k)) := by rw [e3, rI_n (by omega)]; exact px.2.1 _ (by omega)
    rw [r3, r1, nI_clamp (show a k < 2 ^ 31 by omega), nI_clamp (show k < 2 ^ 31 by omega), rc]
    refine ⟨pk_in (a k) 7 (by omega), pk_in k 28 (by omega), ?_⟩
    intro m4 e4
    have r4 : m4.1 o 1 = nI k := by rw [e4, rI_n (by omega)]; exact r1
    rw [r4, nI_1]
    refine ih _ (by rw [rI_n (by omega), e4, rI_n (by omega), e3, rI_n (by omega)]; exact b1) rI_s ?_ (fun j hj => ?_) (by funext j; rw [rI_n (by omega), e4, rI_n (by omega), e3, rI_n (by omega), b5]) (fz_trans b6 (fz_trans (fz_eI e3) (fz_trans (fz_eI e4) fz_wI)))
    · show rowL _ (cdA G a k ++ [gc G (a k)])
      refine rowL_app b3 ?_ (fun j hj => ?_)
      · rw [cdA_len, rI_n (by omega), e4, rI_s]
      · rw [cdA_len] at hj
        rw [rI_n (by omega), e4, rI_n (by omega), e3, rI_n (by omega)]
    · rw [rI_n (by omega), e4, rI_n (by omega), e3]
      by_cases z : j = k
      · subst z; rw [rI_s]
      · rw [rI_n (fun w => z w.2)]; exact b4 j (by omega)
end ZLf
