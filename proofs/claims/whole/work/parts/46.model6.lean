/-! the model's search: the first leaf, generators, what is skipped, what is cut -/
theorem i_sentM {a v : Nat} (ha : a < 2 ^ 31) (hv : v < 7) : fSentM (nI a) (nI v) = nI (sent a v) := by
  unfold fSentM sent
  rw [show (3 : Int32) = nI 3 from rfl, pk_mul, pk_shrN ha _ (3 * v) (s_l (3 * v) (by omega))]
  have h : a / 2 ^ (3 * v) ≤ a := Nat.div_le_self _ _
  exact pk_andN (m := 7) (show a / 2 ^ (3 * v) < 2 ^ 32 by omega) 3 (by decide)
/-- a closure is closed after seven passes -/
theorem ps_sub {n ap : Nat} {v : Nat} : ∀ {gs : List Nat} {all : Nat}, all.testBit v = true → (ps n ap gs all).testBit v = true := by
  intro gs
  induction gs with
  | nil => intro all h; exact h
  | cons a gs ih =>
    intro all h
    refine ih ?_
    split
    · rw [Nat.testBit_or, h, Bool.true_or]
    · exact h
theorem ct_sub {p q : Nat → Bool} (h : ∀ i, p i = true → q i = true) : ∀ n, fb_ct p n ≤ fb_ct q n ∧ (fb_ct p n = fb_ct q n → ∀ i, i < n → p i = q i) := by
  intro n
  induction n with
  | zero => exact ⟨Nat.le_refl _, fun _ i hi => absurd hi (Nat.not_lt_zero _)⟩
  | succ n ih =>
    have e1 : fb_ct p (n + 1) = fb_ct p n + (if p n = true then 1 else 0) := fb_ct_succ _ _
    have e2 : fb_ct q (n + 1) = fb_ct q n + (if q n = true then 1 else 0) := fb_ct_succ _ _
    obtain ⟨i1, i2⟩ := ih
    rw [e1, e2]
    have hb : (if p n = true then 1 else 0) ≤ (if q n = true then 1 else 0) := by
      by_cases z : p n = true
      · rw [if_pos z, if_pos (h n z)]; exact Nat.le_refl _
      · rw [if_neg z]; exact Nat.zero_le _
    refine ⟨by omega, fun he i hi => ?_⟩
    by_cases z : i = n
    · subst z
      have : (if p i = true then 1 else 0) = (if q i = true then 1 else 0) := by omega
      cases hp : p i with
      | false =>
        cases hq : q i with
        | false => rfl
        | true => rw [hp, hq] at this; exact absurd this (by decide)
      | true => rw [h i hp]
    · exact i2 (by omega) i (by omega)
theorem ps_grow {n ap all : Nat} {gs : List Nat} (h : all < 256) (hne : ps n ap gs all ≠ all) : fb_ct all.testBit 8 + 1 ≤ fb_ct (ps n ap gs all).testBit 8 := by
  obtain ⟨a1, a2⟩ := ct_sub (p := all.testBit) (q := (ps n ap gs all).testBit) (fun i hi => ps_sub hi) 8
  rcases Nat.lt_or_ge (fb_ct all.testBit 8) (fb_ct (ps n ap gs all).testBit 8) with z | z
  · exact z
  · exfalso
    have e := a2 (by omega)
    exact hne (bits_eq (n := 8) (ps_lt h) h fun i hi => (e i hi).symm)
theorem cl_closed {n ap : Nat} {gs : List Nat} : ∀ (k : Nat) {all : Nat}, all < 256 → all ≠ 0 → 8 ≤ k + fb_ct all.testBit 8 → ps n ap gs (cl n ap gs k all) = cl n ap gs k all := by
  intro k
  induction k with
  | zero =>
    intro all h h0 hc
    show ps n ap gs all = all
    apply Classical.byContradiction
    intro hne
    have h1 := ps_grow h hne
    have h2 := fb_ct_le (ps n ap gs all).testBit 8
    omega
  | succ k ih =>
    intro all h h0 hc
    by_cases z : ps n ap gs all = all
    · rw [cl_fix z]; exact z
    · have h1 := ps_grow h z
      refine ih (ps_lt h) (fun w => ?_) (by omega)
      rw [w] at h1
      have : fb_ct (0 : Nat).testBit 8 = 0 := ct_0 fun i _ => Nat.zero_testBit i
      omega
theorem cl_7 {n ap : Nat} {gs : List Nat} {all : Nat} (h : all < 256) : ps n ap gs (cl n ap gs 7 all) = cl n ap gs 7 all := by
  by_cases h0 : all = 0
  · subst h0
    rw [cl_fix ps_0]; exact ps_0
  · refine cl_closed 7 h h0 ?_
    have hex : ∃ i, i < 8 ∧ all.testBit i = true := by
      apply Classical.byContradiction
      intro hno
      refine h0 (bits_eq (n := 8) h (by decide) fun i hi => ?_)
      rw [Nat.zero_testBit]
      cases hb : all.testBit i with
      | false => rfl
      | true => exact absurd ⟨i, hi, hb⟩ hno
    have := fb_ct_pos.mpr hex
    omega
/-- the path's row says what the path's set says -/
def ptw (m : zm) (n d ap : Nat) : Prop := ∃ pt : Nat → Nat, (∀ i, i < d → m.1 829 i = nI (pt i) ∧ pt i < n) ∧ ∀ v, v < n → (ap.testBit v = true ↔ ∃ i, i < d ∧ pt i = v)
theorem ptw_cong {m m' : zm} {n d ap : Nat} (h : ptw m n d ap) (e : ∀ i, i < d → m'.1 829 i = m.1 829 i) : ptw m' n d ap := by
  obtain ⟨pt, a, b⟩ := h
  exact ⟨pt, fun i hi => by rw [e i hi]; exact a i hi, b⟩
theorem ptw_0 (m : zm) (n : Nat) : ptw m n 0 0 := ⟨fun _ => 0, fun i hi => absurd hi (Nat.not_lt_zero _), fun v _ => ⟨fun z => absurd z (by rw [Nat.zero_testBit]; decide), fun w => w.elim fun i hi => absurd hi.1 (Nat.not_lt_zero _)⟩⟩
def pput (pt : Nat → Nat) (d v i : Nat) : Nat := if i = d then v else pt i
theorem pput_s (pt : Nat → Nat) (d v : Nat) : pput pt d v d = v := if_pos rfl
theorem pput_n {pt : Nat → Nat} {d v i : Nat} (h : i ≠ d) : pput pt d v i = pt i := if_neg h
theorem ptw_put {m m' : zm} {n d ap v : Nat} (h : ptw m n d ap) (hv : v < n) (e : ∀ i, i < d → m'.1 829 i = m.1 829 i) (ed : m'.1 829 d = nI v) : ptw m' n (d + 1) (ap ||| 2 ^ v) := by
  obtain ⟨pt, a, b⟩ := h
  refine ⟨pput pt d v, fun i hi => ?_, fun u hu => ?_⟩
  · by_cases z : i = d
    · subst z; rw [pput_s]; exact ⟨ed, hv⟩
    · rw [pput_n z, e i (by omega)]; exact a i (by omega)
  · rw [Nat.testBit_or, Bool.or_eq_true, b u hu, Nat.testBit_two_pow, decide_eq_true_iff]
    constructor
    · rintro (⟨i, h1, h2⟩ | h1)
      · exact ⟨i, by omega, by rw [pput_n (by omega)]; exact h2⟩
      · exact ⟨d, by omega, by rw [pput_s]; exact h1⟩
    · rintro ⟨i, h1, h2⟩
      by_cases z : i = d
      · rw [z, pput_s] at h2; exact Or.inr h2
      · rw [pput_n z] at h2; exact Or.inl ⟨i, by omega, h2⟩
def pB1 (m : zm) (n : Nat) (l : Lf) : Prop := m.1 810 44 = nI (l_d l) ∧ (∀ i, i ≤ l_d l → m.1 830 i = nI (l_m l i)) ∧ (∀ i, i < cln n → m.1 831 i = nI (l_c l i)) ∧ ∀ j, j < n → m.1 832 j = nI (l_a l j)
theorem pB1_fM {F A : List Nat} {m m' : zm} {n : Nat} {l : Lf} (h : pB1 m n l) (f : fM F A m m') (h1 : 830 ∉ A := by decide) (h2 : 831 ∉ A := by decide) (h3 : 832 ∉ A := by decide) (h4 : 44 ∉ F := by decide) : pB1 m' n l := by
  have q1 := f.1 830 (by decide) h1
  have q2 := f.1 831 (by decide) h2
  have q3 := f.1 832 (by decide) h3
  exact ⟨by rw [f.2.1 44 h4]; exact h.1, fun i hi => by rw [q1]; exact h.2.1 i hi, fun i hi => by rw [q2]; exact h.2.2.1 i hi, fun j hj => by rw [q3]; exact h.2.2.2 j hj⟩
theorem ky_iff {n : Nat} {l l' : Lf} (hl : lmk n l) (hl' : lmk n l') (hc : lcd n l) (hc' : lcd n l') : ky l = ky l' ↔ (∀ j, l_m l j = l_m l' j) ∧ kc l = kc l' := by
  constructor
  · intro h
    have he : ∀ j, j < 7 → l_m l j = l_m l' j := by
      intro j hj
      apply Classical.byContradiction
      intro hne
      obtain ⟨i, h1, h2, h3⟩ := fb_first (n := 7) (p := fun j => l_m l j ≠ l_m l' j) ⟨j, hj, hne⟩
      have he : ∀ j, j < i → l_m l j = l_m l' j := fun j hj => Classical.byContradiction (h3 j hj)
      rcases Nat.lt_or_ge (l_m l i) (l_m l' i) with z | z
      · have := ky_mark hc hl.2.2.2.2 h1 he z; omega
      · have := ky_mark hc' hl'.2.2.2.2 h1 (fun j hj => (he j hj).symm) (show l_m l' i < l_m l i by omega); omega
    refine ⟨fun j => ?_, (ky_same he).2.mp h⟩
    by_cases z : j < 7
    · exact he j z
    · rw [hl.2.2.2.1 j (by have := hl.1; omega), hl'.2.2.2.1 j (by have := hl'.1; omega)]
  · rintro ⟨h1, h2⟩
    exact (ky_same fun j _ => h1 j).2.mpr h2
theorem lmk_depth {n : Nat} {l l' : Lf} (hl : lmk n l) (hl' : lmk n l') (h : ∀ j, l_m l j = l_m l' j) : l_d l = l_d l' := by
  rcases Nat.lt_trichotomy (l_d l) (l_d l') with w | w | w
  · have := hl'.2.1 (l_d l) w
    have := h (l_d l)
    have := hl.2.2.1
    omega
  · exact w
  · have := hl.2.1 (l_d l') w
    have := h (l_d l')
    have := hl'.2.2.1
    omega
section ZMo
variable {g : zG} {gr : Bool} {e : Nat} {m : zm} {Q : Option Value → zH → Prop}
theorem d_leavesPath {n d ap a : Nat} (hn7 : n ≤ 7) (hd : d ≤ 7) (ha : a < 2 ^ 31) (hp : ptw m n d ap) (H1 : lvs a ap n = true → Q (some (.int 1)) (mk m)) (H0 : lvs a ap n = false → Q (some (.int 0)) (mk m)) (he : 1 ≤ e) : Ok g gr e mX10_leavesPath 0 0 [.ref 810, .int (nI a), .int (nI d)] (mk m) Q := by
  obtain ⟨x, rfl⟩ := dn he
  obtain ⟨pt, p1, p2⟩ := hp
  refine b_X10_leavesPath_0 (up_to (n := d) (P := fun i => (∀ j, j < i → sent a (pt j) = pt j) → WP g gr (x + 1) mX10_leavesPath 0 0 2 [.ref 810, .int (nI a), .int (nI d), .int (nI i)] [] (mk m) Q) ?_ (fun i hi ih hs => ?_) 0 (Nat.zero_le _) (fun j hj => absurd hj (Nat.not_lt_zero _)))
  · intro hs
    refine b_X10_leavesPath_2 (pk_le d d (fun _ => H1 (lvs_iff.mpr fun v hv hb => ?_)) (fun z => absurd z (Nat.lt_irrefl _)))
    obtain ⟨i, i1, i2⟩ := (p2 v hv).mp hb
    rw [← i2]; exact hs i i1
  · obtain ⟨q1, q2⟩ := p1 i hi
    refine b_X10_leavesPath_2 (pk_le d i (fun z => by omega) (fun _ => ⟨pk_in i 8 (by omega), ?_⟩))
    have hsl := sent_lt a (pt i)
    rw [nI_clamp (show i < 2 ^ 31 by omega), q1, i_sentM ha (by omega), nI_1]
    refine pk_eq (sent a (pt i)) (pt i) (fun z => ih fun j hj => ?_) (fun z => H0 ?_)
    · by_cases w : j = i
      · subst w; exact z
      · exact hs j (by omega)
    · cases hb : lvs a ap n with
      | false => rfl
      | true => exact absurd (lvs_iff.mp hb (pt i) q2 ((p2 _ q2).mpr ⟨i, hi, rfl⟩)) z
theorem d_sentSet {n a s : Nat} (hn7 : n ≤ 7) (hn : m.1 810 21 = nI n) (ha : a < 2 ^ 31) (hs : s < 256) (K : Q (some (.int (nI (im a s n)))) (mk m)) (he : 1 ≤ e) : Ok g gr e mX10_sentSet 0 0 [.ref 810, .int (nI a), .int (nI s)] (mk m) Q := by
  obtain ⟨x, rfl⟩ := dn he
  refine b_X10_sentSet_0 (up_to (n := n) (P := fun v => WP g gr (x + 1) mX10_sentSet 0 0 5 [.ref 810, .int (nI a), .int (nI s), .int (nI (im a s v)), .int (nI v)] [] (mk m) Q) ?_ (fun v hv ih => ?_) 0 (Nat.zero_le _))
  · exact b_X10_sentSet_5 (pk_le n n (fun _ => K) (fun z => absurd z (Nat.lt_irrefl _)) hn)
  · refine b_X10_sentSet_5 (pk_le n v (fun z => by omega) (fun _ => ?_) hn)
    rw [i_has (by omega) (by omega), i_sentM ha (by omega), i_sh1 (by have := sent_lt a v; omega), show (0 : Int32) = nI 0 from rfl, fa_or, fa_or, nI_1, Nat.or_zero]
    refine ⟨fun z => ?_, fun z => ?_⟩
    · have : im a s (v + 1) = im a s v ||| 2 ^ sent a v := by show (if _ then _ else _) = _; rw [if_pos z]
      rw [← this]; exact ih
    · have : im a s (v + 1) = im a s v := by show (if _ then _ else _) = _; rw [if_neg z]
      rw [← this]; exact ih
theorem d_comesTo {n d ap all v : Nat} {gs : List Nat} (he : 2 ≤ e) (hn7 : n ≤ 7) (hn : m.1 810 21 = nI n) (hd : d ≤ 7) (hv : v < 7) (hg : m.1 810 49 = nI gs.length) (hr : rowL (m.1 833) gs) (hl : gs.length ≤ 5040) (hb : ∀ a ∈ gs, a < 2 ^ 24) (hall : all < 256) (hp : ptw m n d ap) (H1 : (cl n ap gs 7 all).testBit v = true → Q (some (.int 1)) (mk m)) (H0 : (cl n ap gs 7 all).testBit v = false → Q (some (.int 0)) (mk m)) : Ok g gr e mX10_comesTo 0 0 [.ref 810, .int (nI all), .int (nI v), .int (nI d)] (mk m) Q := by
  obtain ⟨x, rfl⟩ := dn he
  have pass : ∀ a0, a0 < 256 → WP g gr (x + 2) mX10_comesTo 0 0 18 [.ref 810, .retAddr 0, .int (nI v), .int (nI d), .int (nI (ps n ap gs a0)), .retAddr 0, .int (nI a0), .int (nI gs.length)] [] (mk m) Q → WP g gr (x + 2) mX10_comesTo 0 0 18 [.ref 810, .retAddr 0, .int (nI v), .int (nI d), .int (nI a0), .retAddr 0, .int (nI a0), .int (nI 0)] [] (mk m) Q := by
    intro a0 h0 HH
    refine up_to (n := gs.length) (P := fun j => ∀ cur, cur < 256 → ps n ap (gs.drop j) cur = ps n ap gs a0 → WP g gr (x + 2) mX10_comesTo 0 0 18 [.ref 810, .retAddr 0, .int (nI v), .int (nI d), .int (nI cur), .retAddr 0, .int (nI a0), .int (nI j)] [] (mk m) Q) ?_ ?_ 0 (Nat.zero_le _) a0 h0 rfl
    · intro cur c1 c2
      rw [List.drop_length] at c2
      have c2 : cur = ps n ap gs a0 := c2
      rw [c2]; exact HH
    · intro j hj ih2 cur c1 c2
      have ha : gs[j]? = some (gs.getD j 0) := by rw [List.getD_eq_getElem?_getD, List.getElem?_eq_getElem hj]; rfl
      have hmem : gs.getD j 0 ∈ gs := List.mem_of_getElem? ha
      have hb1 := hb _ hmem
      have edrop : gs.drop j = gs.getD j 0 :: gs.drop (j + 1) := by
        rw [List.drop_eq_getElem_cons hj]
        congr 1
        rw [List.getD_eq_getElem?_getD, List.getElem?_eq_getElem hj]; rfl
      rw [edrop] at c2
      refine b_X10_comesTo_18 (pk_le gs.length j (fun z => by omega) (fun _ => ⟨pk_in j 5040 (by omega), ?_⟩) hg)
      rw [nI_clamp (show j < 2 ^ 31 by omega), hr j hj]
      refine d_leavesPath hn7 hd (by omega) hp (fun hl1 => ?_) (fun hl0 => ?_) (by omega)
      · refine b_X10_comesTo_39 ⟨fun w => absurd w (by decide), fun _ => ⟨pk_in j 5040 (by omega), ?_⟩⟩
        rw [nI_clamp (show j < 2 ^ 31 by omega), hr j hj]
        refine d_sentSet hn7 hn (by omega) c1 ?_ (by omega)
        refine b_X10_comesTo_57 ?_
        rw [fa_or, nI_1]
        refine ih2 _ (Nat.or_lt_two_pow (n := 8) c1 (im_lt n)) ?_
        rw [← c2]
        show _ = ps n ap (gs.drop (j + 1)) (if _ then _ else _)
        rw [if_pos hl1]
      · refine b_X10_comesTo_39 ⟨fun _ => ?_, fun w => absurd rfl w⟩
        rw [nI_1]
        refine ih2 _ c1 ?_
        rw [← c2]
        show _ = ps n ap (gs.drop (j + 1)) (if _ then _ else _)
        rw [if_neg (by rw [hl0]; decide)]
  -- at the end
  have done : ∀ a0, a0 = cl n ap gs 7 all → WP g gr (x + 2) mX10_comesTo 0 0 6 [.ref 810, .retAddr 0, .int (nI v), .int (nI d), .int (nI a0), .int 0, .retAddr 0, .retAddr 0] [] (mk m) Q := by
    intro a0 h0
    have hlt := cl_lt (n := n) (ap := ap) (gs := gs) (k := 7) hall
    refine b_X10_comesTo_6 ⟨fun _ => ?_, fun z => absurd rfl z⟩
    rw [h0, i_has (by omega) (by omega)]
    refine ⟨H1, fun z => H0 ?_⟩
    cases hb2 : (cl n ap gs 7 all).testBit v with
    | false => rfl
    | true => exact absurd hb2 z
  refine b_X10_comesTo_0 (up_to (n := 7) (P := fun i => ∀ a0, a0 < 256 → cl n ap gs (7 - i) a0 = cl n ap gs 7 all → WP g gr (x + 2) mX10_comesTo 0 0 6 [.ref 810, .retAddr 0, .int (nI v), .int (nI d), .int (nI a0), .int 1, .retAddr 0, .retAddr 0] [] (mk m) Q) ?_ ?_ 0 (Nat.zero_le _) all hall rfl)
  · intro a0 h1 h2
    have h2 : a0 = cl n ap gs 7 all := h2
    have hfix : ps n ap gs a0 = a0 := by rw [h2]; exact cl_7 hall
    refine b_X10_comesTo_6 ⟨fun z => absurd z (by decide), fun _ => pass a0 h1 ?_⟩
    refine b_X10_comesTo_18 (pk_le gs.length gs.length (fun _ => ⟨fun _ => done _ (by rw [hfix]; exact h2), fun z => absurd (by rw [hfix]) z⟩) (fun z => absurd z (Nat.lt_irrefl _)) hg)
  · intro i hi ih a0 h1 h2
    have hps := ps_lt (n := n) (ap := ap) (gs := gs) h1
    refine b_X10_comesTo_6 ⟨fun z => absurd z (by decide), fun _ => pass a0 h1 ?_⟩
    refine b_X10_comesTo_18 (pk_le gs.length gs.length (fun _ => pk_eq (ps n ap gs a0) a0 (fun z => done _ ?_) (fun z => ih _ hps ?_)) (fun z => absurd z (Nat.lt_irrefl _)) hg)
    · rw [cl_fix z] at h2; rw [z]; exact h2
    · rw [← h2, show 7 - i = (7 - (i + 1)) + 1 by omega]; rfl
theorem d_generates {x n q : Nat} {c b : Nat → Nat} {gs : List Nat} (hx : x = 832 ∨ x = 827) (he : 1 ≤ e) (hn7 : n ≤ 7) (hn : m.1 810 21 = nI n) (hE : pE m n c q) (hc : cwf n c q) (h0 : tg c n q = 0) (hb : ∀ j, j < n → m.1 x j = nI (b j)) (hb7 : ∀ j, j < n → b j < 7) (hg : m.1 810 49 = nI gs.length) (hr : rowL (m.1 833) gs) (hl : gs.length < 5040)
    (K : ∀ m', m'.1 810 49 = nI (gs ++ [gnum (vi c n) b n]).length → rowL (m'.1 833) (gs ++ [gnum (vi c n) b n]) → fM [49] [833] m m' → Q none (mk m')) : Ok g gr e mX10_generates 0 0 [.ref 810, .ref x] (mk m) Q := by
  obtain ⟨d, rfl⟩ := dn he
  have hx1 : sA x 20 7 := by rcases hx with rfl | rfl; exact a_832; exact a_827
  have hq := disc_q hc h0
  have hc8 : ∀ v, v < n → c v < 8 := fun v hv => by have := hc.1 v hv; omega
  have hvp := (vi_pe hc h0).1.1
  refine b_X10_generates_0 hx1 (up_to (n := n) (P := fun k => WP g gr (d + 1) mX10_generates 0 0 4 [.ref 810, .ref x, .int (nI (gnum (vi c n) b k)), .int (nI k)] [] (mk m) Q) ?_ (fun k hk ih => ?_) 0 (Nat.zero_le _))
  · refine b_X10_generates_4 hx1 (pk_le n n (fun _ => ?_) (fun z => absurd z (Nat.lt_irrefl _)) hn)
    rw [hg, nI_clamp (show gs.length < 2 ^ 31 by omega)]
    refine ⟨pk_in gs.length 5040 hl, ?_⟩
    intro m1 e1
    have f1 : fM [49] [833] m m1 := by rw [e1]; exact fM_r
    have r9 : m1.1 810 49 = nI gs.length := by rw [e1, rI_n (by omega)]; exact hg
    rw [r9, nI_1]
    refine K _ (by rw [rI_s, List.length_append]; rfl) (rowL_app hr ?_ (fun i hi => ?_)) (fM_trans f1 fM_f)
    · rw [rI_n (by omega), e1, rI_s]
    · rw [rI_n (by omega), e1, rI_n (by omega)]
  · have hv := hvp k hk
    refine b_X10_generates_4 hx1 (pk_le n k (fun z => by omega) (fun _ => ?_) hn)
    refine d_vertexIn hn7 hn hE hc8 (by omega) (hc.2 k (by omega)) ?_
    refine b_X10_generates_18 hx1 ⟨pk_in k 7 (by omega), ?_⟩
    have h2 := hb7 k hk
    have h3 : 2 ^ (3 * b k) ≤ 2 ^ 18 := Nat.pow_le_pow_right (by decide) (by omega)
    have h4 : vi c n k * 2 ^ (3 * b k) ≤ 7 * 2 ^ 18 := Nat.mul_le_mul (by omega) h3
    rw [nI_clamp (show k < 2 ^ 31 by omega), hb k hk, show (3 : Int32) = nI 3 from rfl, pk_mul, pk_shlN _ (3 * b k) (s_l _ (by omega)) (by omega), fa_or, nI_1]
    exact ih
theorem d_isFirst {n q : Nat} {l : Lf} {c : Nat → Nat} (he : 1 ≤ e) (hn7 : n ≤ 7) (hn : m.1 810 21 = nI n) (hE : pE m n c q) (hc : cwf n c q) (h0 : tg c n q = 0) (hd : l_d l ≤ 6) (hms : ∀ i, i ≤ l_d l → m.1 823 i = nI (l_m l i)) (hcd : ∀ i, i < cln n → m.1 824 i = nI (l_c l i)) (hla : l_a l = vi c n)
    (K : ∀ m', pB1 m' n l → fM [44] [830, 831, 832] m m' → Q none (mk m')) : Ok g gr e mX10_isFirst 0 0 [.ref 810, .int (nI (l_d l))] (mk m) Q := by
  obtain ⟨d, rfl⟩ := dn he
  have hq := disc_q hc h0
  have hc8 : ∀ v, v < n → c v < 8 := fun v hv => by have := hc.1 v hv; omega
  have hvp := (vi_pe hc h0).1.1
  have hcl := (cln_tab n hn7).2
  refine b_X10_isFirst_0 ?_
  refine up_to (n := l_d l + 1) (P := fun k => ∀ m', m'.1 810 44 = nI (l_d l) → (∀ i, i < k → m'.1 830 i = nI (l_m l i)) → fM [44] [830, 831, 832] m m' → WP g gr (d + 1) mX10_isFirst 0 0 7 [.ref 810, .int (nI (l_d l)), .int (nI k)] [] (mk m') Q) ?_ ?_ 0 (Nat.zero_le _) _ rI_s (fun i hi => absurd hi (Nat.not_lt_zero _)) fM_f
  · intro m1 a1 a2 a3
    refine b_X10_isFirst_7 (pk_lt (l_d l) (l_d l + 1) (fun _ => ?_) (fun z => by omega))
    refine up_to (n := cln n) (P := fun k => ∀ m', m'.1 810 44 = nI (l_d l) → (∀ i, i ≤ l_d l → m'.1 830 i = nI (l_m l i)) → (∀ i, i < k → m'.1 831 i = nI (l_c l i)) → fM [44] [830, 831, 832] m m' → WP g gr (d + 1) mX10_isFirst 0 0 32 [.ref 810, .retAddr 0, .int (nI k)] [] (mk m') Q) ?_ ?_ 0 (Nat.zero_le _) m1 a1 (fun i hi => a2 i (by omega)) (fun i hi => absurd hi (Nat.not_lt_zero _)) a3
    · intro m2 b1 b2 b3 b4
      refine b_X10_isFirst_32 (pk_le (cln n) (cln n) (fun _ => ?_) (fun z => absurd z (Nat.lt_irrefl _)) (by rw [fM_2 b4, hn, i_cln n (by omega)]))
      refine up_to (n := n) (P := fun k => ∀ m', m'.1 810 44 = nI (l_d l) → (∀ i, i ≤ l_d l → m'.1 830 i = nI (l_m l i)) → (∀ i, i < cln n → m'.1 831 i = nI (l_c l i)) → (∀ j, j < k → m'.1 832 j = nI (l_a l j)) → fM [44] [830, 831, 832] m m' → WP g gr (d + 1) mX10_isFirst 0 0 60 [.ref 810, .retAddr 0, .int (nI k)] [] (mk m') Q) ?_ ?_ 0 (Nat.zero_le _) m2 b1 b2 b3 (fun i hi => absurd hi (Nat.not_lt_zero _)) b4
      · intro m3 c1 c2 c3 c4 c5
        exact b_X10_isFirst_60 (pk_le n n (fun _ => K m3 ⟨c1, c2, c3, c4⟩ c5) (fun z => absurd z (Nat.lt_irrefl _)) (by rw [fM_2 c5]; exact hn))
      · intro k hk ih m3 c1 c2 c3 c4 c5
        have hv := hvp k hk
        refine b_X10_isFirst_60 (pk_le n k (fun z => by omega) (fun _ => ?_) (by rw [fM_2 c5]; exact hn))
        refine d_vertexIn hn7 (by rw [fM_2 c5]; exact hn) (pE_fM hE c5) hc8 (by omega) (hc.2 k (by omega)) ?_
        refine b_X10_isFirst_78 ⟨pk_in k 7 (by omega), ?_⟩
        rw [nI_clamp (show k < 2 ^ 31 by omega), nI_1]
        refine ih _ (by rw [rI_n (by omega)]; exact c1) (fun i hi => by rw [rI_n (by omega)]; exact c2 i hi) (fun i hi => by rw [rI_n (by omega)]; exact c3 i hi) (fun j hj => ?_) (fM_trans c5 fM_r)
        by_cases z : j = k
        · subst z; rw [rI_s, hla]
        · rw [rI_n (fun w => z w.2)]; exact c4 j (by omega)
    · intro k hk ih m2 b1 b2 b3 b4
      refine b_X10_isFirst_32 (pk_le (cln n) k (fun z => by omega) (fun _ => ⟨pk_in k 28 (by omega), ?_⟩) (by rw [fM_2 b4, hn, i_cln n (by omega)]))
      rw [nI_clamp (show k < 2 ^ 31 by omega), fM_1 b4 (a := 824), hcd k hk, nI_1]
      refine ih _ (by rw [rI_n (by omega)]; exact b1) (fun i hi => by rw [rI_n (by omega)]; exact b2 i hi) (fun j hj => ?_) (fM_trans b4 fM_r)
      by_cases z : j = k
      · subst z; exact rI_s
      · rw [rI_n (fun w => z w.2)]; exact b3 j (by omega)
  · intro k hk ih m1 a1 a2 a3
    refine b_X10_isFirst_7 (pk_lt (l_d l) k (fun z => by omega) (fun _ => ⟨pk_in k 8 (by omega), ?_⟩))
    rw [nI_clamp (show k < 2 ^ 31 by omega), fM_1 a3 (a := 823), hms k (by omega), nI_1]
    refine ih _ (by rw [rI_n (by omega)]; exact a1) (fun j hj => ?_) (fM_trans a3 fM_r)
    by_cases z : j = k
    · subst z; exact rI_s
    · rw [rI_n (fun w => z w.2)]; exact a2 j (by omega)
theorem d_isLikeFirst {n : Nat} {l l' : Lf} (he : 1 ≤ e) (hn7 : n ≤ 7) (hn : m.1 810 21 = nI n) (hms : ∀ i, i ≤ l_d l → m.1 823 i = nI (l_m l i)) (hcd : ∀ i, i < cln n → m.1 824 i = nI (l_c l i)) (hB : pB1 m n l') (hl : lmk n l) (hl' : lmk n l') (hc : lcd n l) (hc' : lcd n l')
    (K1 : ky l = ky l' → Q (some (.int 1)) (mk m)) (K0 : ky l ≠ ky l' → Q (some (.int 0)) (mk m)) : Ok g gr e mX10_isLikeFirst 0 0 [.ref 810, .int (nI (l_d l))] (mk m) Q := by
  obtain ⟨d, rfl⟩ := dn he
  have a1 := hl.1
  have a2 := hl'.1
  have hcl := (cln_tab n hn7).2
  have hk := ky_iff hl hl' hc hc'
  refine b_X10_isLikeFirst_0 ⟨fun z => K0 fun w => ?_, fun z => ?_⟩
  · rw [hB.1, nI_eq (by omega) (by omega)] at z
    exact z (lmk_depth hl hl' (hk.mp w).1)
  · rw [hB.1, nI_eq (by omega) (by omega)] at z
    rw [nI_1]
    refine d_compares (i := 0) (j := 0) (B := 100000000) (f := l_m l) (h := l_m l') a_823 a_830 (by omega) (by omega) (by decide) (by decide) (by decide) (fun k hk => ⟨by rw [Nat.zero_add]; exact hms k (by omega), hl.2.2.2.2 k⟩) (fun k hk => ⟨by rw [Nat.zero_add]; exact hB.2.1 k (by omega), hl'.2.2.2.2 k⟩) (fun r r1 r2 => ?_)
    refine b_X10_isLikeFirst_24 ⟨fun w => K0 fun w2 => ?_, fun w => ?_⟩
    · exact w (r2.mpr (nm_cong fun i _ => (hk.mp w2).1 i))
    · have hm1 := nm_inj (fun i _ => hl.2.2.2.2 i) (fun i _ => hl'.2.2.2.2 i) (r2.mp w)
      have hm2 : ∀ j, l_m l j = l_m l' j := fun j => by
        by_cases y : j < l_d l + 1
        · exact hm1 j y
        · rw [hl.2.2.2.1 j (by omega), hl'.2.2.2.1 j (by omega)]
      rw [hn, i_cln n (by omega)]
      refine d_compares (i := 0) (j := 0) (B := 10) (f := l_c l) (h := l_c l') a_824 a_831 (by omega) (by omega) (by decide) (by decide) (by decide) (fun k hk => ⟨by rw [Nat.zero_add]; exact hcd k hk, hc.1 k⟩) (fun k hk => ⟨by rw [Nat.zero_add]; exact hB.2.2.1 k hk, hc'.1 k⟩) (fun r' r1' r2' => ?_)
      have up : nm 10 (l_c l) 28 = nm 10 (l_c l) (cln n) * 10 ^ (28 - cln n) := nm_low hcl (fun i h1 _ => hc.2 i h1)
      have up' : nm 10 (l_c l') 28 = nm 10 (l_c l') (cln n) * 10 ^ (28 - cln n) := nm_low hcl (fun i h1 _ => hc'.2 i h1)
      have hpos : 0 < 10 ^ (28 - cln n) := Nat.pow_pos (by decide)
      refine b_X10_isLikeFirst_44 ⟨fun w => K0 fun w2 => ?_, fun w => K1 ?_⟩
      · have := (hk.mp w2).2
        unfold kc at this
        rw [up, up'] at this
        exact w (r2'.mpr (Nat.eq_of_mul_eq_mul_right hpos this))
      · refine hk.mpr ⟨hm2, ?_⟩
        unfold kc
        rw [up, up', r2'.mp w]
end ZMo
