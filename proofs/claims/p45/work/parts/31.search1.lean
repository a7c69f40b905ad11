/-! the class Search: closures, cuts, notes, leafs -/
def pSS (m : zm) (o n : Nat) (s : SS) : Prop := m.1 o 4 = nI (S_n s) ∧ m.1 o 5 = nI (S_l s) ∧ m.1 o 6 = nI (S_c s) ∧ m.1 o 7 = nI (S_k s) ∧ m.1 o 10 = nI (S_b s) ∧ m.1 o 9 = nI (S_g s).length ∧ rowL (m.1 (o + 60)) (S_g s) ∧ (S_l s ≠ 0 → pF m (o + 61) n (S_f s) ∧ pF m (o + 21) n (S_t s))
theorem i_sent {a v : Nat} (ha : a < 2 ^ 31) (hv : v < 7) : fSent (nI a) (nI v) = nI (sent a v) := by
  unfold fSent sent
  rw [show (3 : Int32) = nI 3 from rfl, pk_mul, pk_shrN ha _ (3 * v) (s_l (3 * v) (by omega))]
  have h : a / 2 ^ (3 * v) ≤ a := Nat.div_le_self _ _
  exact pk_andN (m := 7) (show a / 2 ^ (3 * v) < 2 ^ 32 by omega) 3 (by decide)
theorem im_lt {a s : Nat} : ∀ k, im a s k < 256 := by
  intro k
  induction k with
  | zero => show (0 : Nat) < 256; decide
  | succ k ih =>
    show (if _ then _ else _) < 256
    split
    · have h : 2 ^ sent a k < 2 ^ 8 := Nat.pow_lt_pow_right (by decide) (sent_lt a k)
      exact Nat.or_lt_two_pow (n := 8) ih h
    · exact ih
theorem ps_lt {n ap : Nat} : ∀ {gs : List Nat} {all : Nat}, all < 256 → ps n ap gs all < 256 := by
  intro gs
  induction gs with
  | nil => intro all h; exact h
  | cons a gs ih =>
    intro all h
    refine ih ?_
    split
    · exact Nat.or_lt_two_pow (n := 8) h (im_lt n)
    · exact h
theorem cl_fix {n ap : Nat} {gs : List Nat} {all : Nat} (h : ps n ap gs all = all) : ∀ k, cl n ap gs k all = all := by
  intro k
  induction k with
  | zero => rfl
  | succ k ih => show cl n ap gs k (ps n ap gs all) = all; rw [h]; exact ih
theorem im_0 (a : Nat) : ∀ k, im a 0 k = 0 := by
  intro k
  induction k with
  | zero => rfl
  | succ k ih => show (if (0 : Nat).testBit k = true then _ else _) = 0; rw [Nat.zero_testBit, if_neg (by decide)]; exact ih
theorem ps_0 {n ap : Nat} : ∀ {gs : List Nat}, ps n ap gs 0 = 0 := by
  intro gs
  induction gs with
  | nil => rfl
  | cons a gs ih =>
    show ps n ap gs (if _ then 0 ||| im a 0 n else 0) = 0
    rw [im_0, Nat.or_zero, ite_self]; exact ih
section ZSe
variable {g : zG} {gr : Bool} {e : Nat} {m : zm} {Q : Option Value → zH → Prop}
theorem k_imageOf {o a s n : Nat} (ho : sX6 o) (he : 1 ≤ e) (hn : n ≤ 7) (hc : m.1 (o + 1) 0 = nI n) (hs : s < 256) (ha : a < 2 ^ 31) (H : Q (some (.int (nI (im a s n)))) (mk m)) : Ok g gr e mX6_imageOf 0 0 [.ref o, .int (nI s), .int (nI a)] (mk m) Q := by
  obtain ⟨d, rfl⟩ := dn he
  refine b_X6_imageOf_0 ho (up_to (n := n) (P := fun v => WP g gr (d + 1) mX6_imageOf 0 0 5 [.ref o, .int (nI s), .int (nI a), .int (nI (im a s v)), .int (nI v)] [] (mk m) Q) ?_ (fun v hv ih => ?_) 0 (Nat.zero_le _))
  · exact b_X6_imageOf_5 ho (pk_le n n (fun _ => H) (fun z => absurd z (Nat.lt_irrefl _)) hc)
  · refine b_X6_imageOf_5 ho (pk_le n v (fun z => by omega) (fun _ => ?_) hc)
    rw [i_in (by omega) (by omega), i_sent ha (by omega), i_sh1 (by have := sent_lt a v; omega), fa_or, nI_1]
    refine ⟨fun z => ?_, fun z => ?_⟩
    · have : im a s (v + 1) = im a s v ||| 2 ^ sent a v := by show (if _ then _ else _) = _; rw [if_pos z]
      rw [← this]; exact ih
    · have : im a s (v + 1) = im a s v := by show (if _ then _ else _) = _; rw [if_neg z]
      rw [← this]; exact ih
theorem k_leavesAlone {o a ap n : Nat} (ho : sX6 o) (he : 1 ≤ e) (hn : n ≤ 7) (hc : m.1 (o + 1) 0 = nI n) (hap : ap < 2 ^ 31) (ha : a < 2 ^ 31) (H1 : lvs a ap n = true → Q (some (.int 1)) (mk m)) (H0 : lvs a ap n = false → Q (some (.int 0)) (mk m)) : Ok g gr e mX6_leavesAlone 0 0 [.ref o, .int (nI a), .int (nI ap)] (mk m) Q := by
  obtain ⟨d, rfl⟩ := dn he
  refine b_X6_leavesAlone_0 ho (up_to (n := n) (P := fun v => (∀ u, u < v → ap.testBit u = true → sent a u = u) → WP g gr (d + 1) mX6_leavesAlone 0 0 2 [.ref o, .int (nI a), .int (nI ap), .int (nI v)] [] (mk m) Q) ?_ (fun v hv ih hu => ?_) 0 (Nat.zero_le _) (fun u hu => absurd hu (Nat.not_lt_zero _)))
  · intro hu
    exact b_X6_leavesAlone_2 ho (pk_le n n (fun _ => H1 (lvs_iff.mpr hu)) (fun z => absurd z (Nat.lt_irrefl _)) hc)
  · refine b_X6_leavesAlone_2 ho (pk_le n v (fun z => by omega) (fun _ => ?_) hc)
    rw [i_in hap (by omega), i_sent ha (by omega), nI_1]
    have hsl := sent_lt a v
    refine ⟨fun z => pk_eq (sent a v) v (fun z2 => ih fun u h1 h2 => ?_) (fun z2 => H0 ?_), fun z => ih fun u h1 h2 => ?_⟩
    · by_cases w : u = v
      · subst w; exact z2
      · exact hu u (by omega) h2
    · cases hb : lvs a ap n with
      | false => rfl
      | true => exact absurd (lvs_iff.mp hb v hv z) z2
    · by_cases w : u = v
      · subst w; exact absurd h2 z
      · exact hu u (by omega) h2
theorem k_spread {o lk ap n : Nat} {gs : List Nat} (ho : sX6 o) (he : 2 ≤ e) (hn : n ≤ 7) (hc : m.1 (o + 1) 0 = nI n) (hg : m.1 o 9 = nI gs.length) (hr : rowL (m.1 (o + 60)) gs) (hl : gs.length ≤ 5040) (hb : ∀ a ∈ gs, a < 2 ^ 24) (hlk : lk < 256) (hap : ap < 2 ^ 31) (H : Q (some (.int (nI (cl n ap gs 7 lk)))) (mk m)) : Ok g gr e mX6_spread 0 0 [.ref o, .int (nI lk), .int (nI ap)] (mk m) Q := by
  obtain ⟨d, rfl⟩ := dn he
  refine b_X6_spread_0 ho (up_to (n := 7) (P := fun i => ∀ all before, all < 256 → before < 256 → (all = before → ps n ap gs all = all) → cl n ap gs (7 - i) all = cl n ap gs 7 lk → WP g gr (d + 2) mX6_spread 0 0 8 [.ref o, .retAddr 0, .int (nI ap), .int (nI all), .int (nI before), .int (nI i), .retAddr 0] [] (mk m) Q) ?_ ?_ 0 (Nat.zero_le _) lk 0 hlk (by decide) (fun z => by rw [z]; exact ps_0) rfl)
  · intro all before _ _ _ h4
    have h4 : all = cl n ap gs 7 lk := h4
    exact b_X6_spread_8 ho (pk_le 7 7 (fun _ => by rw [h4]; exact H) (fun z => absurd z (Nat.lt_irrefl _)))
  · intro i hi ih all before h1 h2 h3 h4
    refine b_X6_spread_8 ho (pk_le 7 i (fun z => by omega) (fun _ => pk_eq all before (fun z => ?_) (fun z => ?_)))
    · rw [cl_fix (h3 z)] at h4
      rw [h4]; exact H
    · -- one pass over the generators
      refine up_to (n := gs.length) (P := fun j => ∀ cur, cur < 256 → ps n ap (gs.drop j) cur = ps n ap gs all → WP g gr (d + 2) mX6_spread 0 0 27 [.ref o, .retAddr 0, .int (nI ap), .int (nI cur), .int (nI all), .int (nI i), .int (nI j)] [] (mk m) Q) ?_ ?_ 0 (Nat.zero_le _) all h1 rfl
      · intro cur c1 c2
        rw [List.drop_length] at c2
        have c2 : cur = ps n ap gs all := c2
        refine b_X6_spread_27 ho (pk_le gs.length gs.length (fun _ => ?_) (fun z => absurd z (Nat.lt_irrefl _)) hg)
        rw [nI_1]
        refine ih cur all c1 h1 (fun w => ?_) ?_
        · rw [w, ← c2]; exact w
        · rw [c2, ← h4, show 7 - i = (7 - (i + 1)) + 1 by omega]; rfl
      · intro j hj ih2 cur c1 c2
        have ha : gs[j]? = some (gs.getD j 0) := by rw [List.getD_eq_getElem?_getD, List.getElem?_eq_getElem hj]; rfl
        have hmem : gs.getD j 0 ∈ gs := List.mem_of_getElem? ha
        have hb1 := hb _ hmem
        have edrop : gs.drop j = gs.getD j 0 :: gs.drop (j + 1) := by
          rw [List.drop_eq_getElem_cons hj]
          congr 1
          rw [List.getD_eq_getElem?_getD, List.getElem?_eq_getElem hj]; rfl
        rw [edrop] at c2
        refine b_X6_spread_27 ho (pk_le gs.length j (fun z => by omega) (fun _ => ⟨pk_in j 5040 (by omega), ?_⟩) hg)
        rw [nI_clamp (show j < 2 ^ 31 by omega), hr j hj]
        refine k_leavesAlone ho (by omega) hn hc hap (by omega) (fun hl1 => ?_) (fun hl0 => ?_)
        · refine b_X6_spread_48 ho ⟨fun w => absurd w (by decide), fun _ => ⟨pk_in j 5040 (by omega), ?_⟩⟩
          rw [nI_clamp (show j < 2 ^ 31 by omega), hr j hj]
          refine k_imageOf ho (by omega) hn hc c1 (by omega) ?_
          refine b_X6_spread_64 ho ?_
          rw [fa_or, nI_1]
          refine ih2 _ (Nat.or_lt_two_pow (n := 8) c1 (im_lt n)) ?_
          rw [← c2]
          show _ = ps n ap (gs.drop (j + 1)) (if _ then _ else _)
          rw [if_pos hl1]
        · refine b_X6_spread_48 ho ⟨fun _ => ?_, fun w => absurd rfl w⟩
          rw [nI_1]
          refine ih2 _ c1 ?_
          rw [← c2]
          show _ = ps n ap (gs.drop (j + 1)) (if _ then _ else _)
          rw [if_neg (by rw [hl0]; decide)]
theorem cl_lt {n ap : Nat} {gs : List Nat} : ∀ {k all : Nat}, all < 256 → cl n ap gs k all < 256 := by
  intro k
  induction k with
  | zero => intro all h; exact h
  | succ k ih => intro all h; exact ih (ps_lt h)
theorem k_skips {o lk ap n v : Nat} {gs : List Nat} (ho : sX6 o) (he : 3 ≤ e) (hn : n ≤ 7) (hc : m.1 (o + 1) 0 = nI n) (hg : m.1 o 9 = nI gs.length) (hr : rowL (m.1 (o + 60)) gs) (hl : gs.length ≤ 5040) (hb : ∀ a ∈ gs, a < 2 ^ 24) (hlk : lk < 256) (hap : ap < 2 ^ 31) (hv : v < 7) (H1 : (cl n ap gs 7 lk).testBit v = true → Q (some (.int 1)) (mk m)) (H0 : (cl n ap gs 7 lk).testBit v = false → Q (some (.int 0)) (mk m)) : Ok g gr e mX6_skips 0 0 [.ref o, .int (nI v), .int (nI lk), .int (nI ap)] (mk m) Q := by
  obtain ⟨d, rfl⟩ := dn he
  refine b_X6_skips_0 ho (k_spread ho (by omega) hn hc hg hr hl hb hlk hap ?_)
  have h := cl_lt (n := n) (ap := ap) (gs := gs) (k := 7) hlk
  refine b_X6_skips_6 ?_
  rw [i_in (by omega) (by omega)]
  refine ⟨H1, fun z => H0 ?_⟩
  cases hb2 : (cl n ap gs 7 lk).testBit v with
  | false => rfl
  | true => exact absurd hb2 z
theorem k_cuts {o n t : Nat} {s : SS} {ms : Nat → Nat} (ho : sX6 o) (hn : n ≤ 7) (hp : pSS m o n s) (ht : t ≤ 6) (hms : ∀ i, i ≤ t → m.1 (o + 18) i = nI (ms i)) (hb : ∀ i, ms i < 100000000) (hlo : ∀ i, i < t → ms i < 10 ^ n) (hs : S_l s ≠ 0 → lmk n (S_t s)) (hl : S_l s ≤ 5040) (H1 : cutc s ms t = true → Q (some (.int 1)) (mk m)) (H0 : cutc s ms t = false → Q (some (.int 0)) (mk m)) : Ok g gr e mX6_cuts 0 0 [.ref o, .int (nI t)] (mk m) Q := by
  refine b_X6_cuts_0 (d := e) ho ⟨fun z => ?_, fun z => ?_⟩
  · have z : S_l s ≠ 0 := fun w => z (by rw [hp.2.1, w]; rfl)
    have hm := hs z
    have hpt := (hp.2.2.2.2.2.2.2 z).2
    refine up_to (n := t) (P := fun i => (∀ j, j < i → ms j = l_m (S_t s) j) → WP g gr e mX6_cuts 0 0 11 [.ref o, .int (nI t), .int (nI i)] [] (mk m) Q) ?_ ?_ 0 (Nat.zero_le _) (fun j hj => absurd hj (Nat.not_lt_zero _))
    · intro hj
      have htd : t ≤ l_d (S_t s) := by
        apply Classical.byContradiction
        intro w
        have a := hlo (l_d (S_t s)) (by omega)
        have b := hj (l_d (S_t s)) (by omega)
        have c := hm.2.2.1
        omega
      have d2 := hm.2.2.2.2 t
      have d1 := hb t
      refine b_X6_cuts_11 (d := e) ho (pk_le t t (fun _ => ⟨pk_in t 7 (by omega), ?_⟩) (fun w => absurd w (Nat.lt_irrefl _)))
      rw [nI_clamp (show t < 2 ^ 31 by omega), hms t (Nat.le_refl _), show o + 22 = o + 21 + 1 from rfl, hpt.2.2.1 t htd]
      have e0 : fb_ct (fun i => !(ms i == l_m (S_t s) i)) t = 0 := ct_0 fun i hi => by rw [bq_t (hj i hi)]; rfl
      refine pk_le (ms t) (l_m (S_t s) t) (fun w => H0 ?_) (fun w => H1 ?_)
      · unfold cutc
        rw [decide_eq_false (show ¬ l_m (S_t s) t < ms t by omega)]
        simp
      · unfold cutc
        rw [decide_eq_true w, e0, decide_eq_true htd, bq_f z]
        rfl
    · intro i hi ih hj
      refine b_X6_cuts_11 (d := e) ho (pk_le t i (fun w => by omega) (fun _ => ⟨pk_in i 7 (by omega), ?_⟩))
      have cutF : i ≤ l_d (S_t s) → ms i ≠ l_m (S_t s) i → cutc s ms t = false := fun _ w => by
        have : 0 < fb_ct (fun i => !(ms i == l_m (S_t s) i)) t := fb_ct_pos.mpr ⟨i, hi, by rw [bq_f w]; rfl⟩
        unfold cutc
        rw [bq_f (show fb_ct (fun i => !(ms i == l_m (S_t s) i)) t ≠ 0 by omega)]
        simp
      have hid : i ≤ l_d (S_t s) := by
        apply Classical.byContradiction
        intro w
        have a := hlo (l_d (S_t s)) (by omega)
        have b := hj (l_d (S_t s)) (by omega)
        have c := hm.2.2.1
        omega
      have d2 := hm.2.2.2.2 i
      have d1 := hb i
      rw [nI_clamp (show i < 2 ^ 31 by omega), hms i (by omega), show o + 22 = o + 21 + 1 from rfl, hpt.2.2.1 i hid, nI_1]
      refine pk_eq (ms i) (l_m (S_t s) i) (fun w => ih fun j hj2 => ?_) (fun w => H0 (cutF hid w))
      by_cases w2 : j = i
      · subst w2; exact w
      · exact hj j (by omega)
  · have z : S_l s = 0 := by
      rw [hp.2.1, show (0 : Int32) = nI 0 from rfl, nI_eq (by omega) (by decide)] at z
      exact z
    refine H0 ?_
    unfold cutc
    rw [bq_t z]; rfl
theorem k_note {o x n : Nat} {a b : Nat → Nat} {gs : List Nat} (ho : sX6 o) (hx : sX2 x) (hn : n ≤ 7) (hc : m.1 (o + 1) 0 = nI n) (hg : m.1 o 9 = nI gs.length) (hr : rowL (m.1 (o + 60)) gs) (hl : gs.length < 5040) (ha : ∀ j, j < n → m.1 (o + 20) j = nI (a j)) (hb : ∀ j, j < n → m.1 (x + 3) j = nI (b j)) (ha7 : ∀ j, j < n → a j < 7) (hb7 : ∀ j, j < n → b j < 7)
    (H : ∀ m', m'.1 o 9 = nI (gs ++ [gnum a b n]).length → rowL (m'.1 (o + 60)) (gs ++ [gnum a b n]) → (∀ c k, ¬ (c = o ∧ k = 9) → c ≠ o + 60 → m'.1 c k = m.1 c k) → m'.2 = m.2 → Q none (mk m')) : Ok g gr e mX6_note 0 0 [.ref o, .ref x] (mk m) Q := by
  refine b_X6_note_0 (d := e) ho hx (pk_lt gs.length 5040 (fun _ => ?_) (fun z => by omega) hg)
  refine up_to (n := n) (P := fun k => WP g gr e mX6_note 0 0 15 [.ref o, .ref x, .int (nI (gnum a b k)), .int (nI k)] [] (mk m) Q) ?_ (fun k hk ih => ?_) 0 (Nat.zero_le _)
  · refine b_X6_note_15 (d := e) ho hx (pk_le n n (fun _ => ?_) (fun z => absurd z (Nat.lt_irrefl _)) hc)
    rw [hg, nI_clamp (show gs.length < 2 ^ 31 by omega)]
    refine ⟨pk_in gs.length 5040 hl, ?_⟩
    intro m1 e1
    have r9 : m1.1 o 9 = nI gs.length := by rw [e1, rI_n (by omega)]; exact hg
    rw [r9, nI_1]
    refine H _ (by rw [rI_s, List.length_append]; rfl) (rowL_app hr ?_ (fun i hi => ?_)) (fun c k h1 h2 => by rw [rI_n h1, e1, rI_n (fun w => h2 w.1)]) (by rw [wI_2, e1, wI_2])
    · rw [rI_n (by omega), e1, rI_s]
    · rw [rI_n (by omega), e1, rI_n (by omega)]
  · refine b_X6_note_15 (d := e) ho hx (pk_le n k (fun z => by omega) (fun _ => ⟨pk_in k 7 (by omega), ?_⟩) hc)
    have h1 := ha7 k hk
    have h2 := hb7 k hk
    have h3 : 2 ^ (3 * b k) ≤ 2 ^ 18 := Nat.pow_le_pow_right (by decide) (by omega)
    have h4 : a k * 2 ^ (3 * b k) ≤ 7 * 2 ^ 18 := Nat.mul_le_mul (by omega) h3
    rw [nI_clamp (show k < 2 ^ 31 by omega), ha k hk, hb k hk, show (3 : Int32) = nI 3 from rfl, pk_mul, pk_shlN _ (3 * b k) (s_l _ (by omega)) (by omega), fa_or, nI_1]
    exact ih
end ZSe
