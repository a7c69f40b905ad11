/-! the model: codes, the best leaf, what is saved -/
def pB (m : zm) (n : Nat) (l : Lf) : Prop := m.1 810 35 = nI (l_d l) ∧ (∀ i, i ≤ l_d l → m.1 825 i = nI (l_m l i)) ∧ (∀ i, i < cln n → m.1 826 i = nI (l_c l i)) ∧ ∀ j, j < n → m.1 827 j = nI (l_a l j)
theorem pB_fM {F A : List Nat} {m m' : zm} {n : Nat} {l : Lf} (h : pB m n l) (f : fM F A m m') (h1 : 825 ∉ A := by decide) (h2 : 826 ∉ A := by decide) (h3 : 827 ∉ A := by decide) (h4 : 35 ∉ F := by decide) : pB m' n l := by
  have q1 := f.1 825 (by decide) h1
  have q2 := f.1 826 (by decide) h2
  have q3 := f.1 827 (by decide) h3
  exact ⟨by rw [f.2.1 35 h4]; exact h.1, fun i hi => by rw [q1]; exact h.2.1 i hi, fun i hi => by rw [q2]; exact h.2.2.1 i hi, fun j hj => by rw [q3]; exact h.2.2.2 j hj⟩
theorem i_cln : ∀ n, n < 8 → nI n + (nI n * (nI n - (1 : Int32))) / (2 : Int32) = nI (cln n) := by decide +kernel
theorem vi_first {c : Nat → Nat} {n j v : Nat} (hv : v < n) (h : c v = j) (hs : ∀ u, u < v → c u ≠ j) : vi c n j = v := by
  obtain ⟨a1, a2⟩ := vi_spec (c := c) (n := n) (j := j) ⟨v, hv, h⟩
  rcases Nat.lt_trichotomy (vi c n j) v with z | z | z
  · exact absurd a2 (hs _ z)
  · exact z
  · have := fa_first_no (fun v => c v == j) n v z
    rw [beq_eq_false_iff_ne] at this
    exact absurd h this
theorem nm_split {B : Nat} {f h : Nat → Nat} {k : Nat} (hf : ∀ i, i < k → f i < B) (hh : ∀ i, i < k → h i < B) (hl : nm B f k < nm B h k) : ∃ i, i < k ∧ (∀ j, j < i → f j = h j) ∧ f i < h i := by
  have hd : ∃ i, i < k ∧ f i ≠ h i := by
    apply Classical.byContradiction
    intro hno
    have := nm_cong (B := B) (f := f) (g := h) (k := k) (fun i hi => Classical.byContradiction fun z => hno ⟨i, hi, z⟩)
    omega
  obtain ⟨i, h1, h2, h3⟩ := fb_first hd
  have he : ∀ j, j < i → f j = h j := fun j hj => Classical.byContradiction (h3 j hj)
  refine ⟨i, h1, he, ?_⟩
  rcases Nat.lt_or_ge (f i) (h i) with z | z
  · exact z
  · have := nm_lx (B := B) hh h1 (fun j hj => (he j hj).symm) (show h i < f i by omega)
    omega
section ZMo
variable {g : zG} {gr : Bool} {e : Nat} {m : zm} {Q : Option Value → zH → Prop}
theorem d_vertexIn {n q j : Nat} {c : Nat → Nat} (hn7 : n ≤ 7) (hn : m.1 810 21 = nI n) (hE : pE m n c q) (hc : ∀ v, v < n → c v < 8) (hj : j < 2 ^ 31) (hx : ∃ v, v < n ∧ c v = j) (K : Q (some (.int (nI (vi c n j)))) (mk m)) : Ok g gr e mX10_vertexIn 0 0 [.ref 810, .int (nI j)] (mk m) Q := by
  refine b_X10_vertexIn_0 (d := e) (up_to (n := n) (P := fun v => (∀ u, u < v → c u ≠ j) → WP g gr e mX10_vertexIn 0 0 2 [.ref 810, .int (nI j), .int (nI v)] [] (mk m) Q) ?_ (fun v hv ih hs => ?_) 0 (Nat.zero_le _) (fun u hu => absurd hu (Nat.not_lt_zero _)))
  · intro hs
    obtain ⟨v, hv, ev⟩ := hx
    exact absurd ev (hs v hv)
  · refine b_X10_vertexIn_2 (d := e) (pk_le n v (fun z => by omega) (fun _ => ⟨pk_in v 7 (by omega), ?_⟩) hn)
    have hcv := hc v hv
    rw [nI_clamp (show v < 2 ^ 31 by omega), hE.1 v hv, nI_eq (by omega) hj, nI_1]
    refine ⟨fun z => ih fun u hu => ?_, fun z => ?_⟩
    · by_cases w : u = v
      · subst w; exact z
      · exact hs u (by omega)
    · rw [vi_first hv z hs] at K; exact K
theorem d_laysCode {q : Nat} {G : Gr} {c : Nat → Nat} (he : 1 ≤ e) (hG : gWF G) (hp : pD m G) (hE : pE m (gn G) c q) (hc : cwf (gn G) c q) (h0 : tg c (gn G) q = 0) (K : ∀ m', (∀ i, i < cln (gn G) → m'.1 824 i = nI (cd G (vi c (gn G)) i)) → fM [] [824] m m' → Q none (mk m')) : Ok g gr e mX10_laysCode 0 0 [.ref 810] (mk m) Q := by
  obtain ⟨d, rfl⟩ := dn he
  have h7 := hG.2.1.2
  have hq := disc_q hc h0
  have hvp := vi_pe hc h0
  have hc8 : ∀ v, v < gn G → c v < 8 := fun v hv => by have := hc.1 v hv; omega
  have hx : ∀ j, j < gn G → ∃ v, v < gn G ∧ c v = j := fun j hj => hc.2 j (by omega)
  let a := vi c (gn G)
  have ha : ∀ j, j < gn G → a j < gn G := hvp.1.1
  have cl28 : ∀ L : List Nat, L.length ≤ cln (gn G) → L.length ≤ 28 := fun L h => by have := (cln_tab (gn G) h7).2; omega
  have hA : ∀ k, k ≤ gn G → (cdA G a k).length ≤ cln (gn G) := fun k hk => by rw [cdA_len]; unfold cln; omega
  refine b_X10_laysCode_0 (up_to (n := gn G) (P := fun k => ∀ m', rowL (m'.1 824) (cdA G a k) → fM [] [824] m m' → WP g gr (d + 1) mX10_laysCode 0 0 4 [.ref 810, .int (nI k), .int (nI k), .retAddr 0] [] (mk m') Q) ?_ ?_ 0 (Nat.zero_le _) m (fun i hi => absurd hi (Nat.not_lt_zero _)) (fM_refl _ _ _))
  · intro m2 b3 b6
    have px := pD_fM hp b6
    refine b_X10_laysCode_4 (pk_le (gn G) (gn G) (fun _ => ?_) (fun z => absurd z (Nat.lt_irrefl _)) px.1)
    have hB : ∀ i d', i < gn G → d' ≤ gn G - 1 - i → (cdA G a (gn G) ++ (cdB G a i ++ cdR G a i d')).length ≤ cln (gn G) := fun i d' hi hd' => by
      rw [List.length_append, List.length_append, cdA_len, cdB_len, cdR_len]
      unfold cln
      have := fb_sm_part (fun i => gn G - 1 - i) hi
      omega
    have start : ∀ m3, rowL (m3.1 824) (cdA G a (gn G) ++ cdB G a 0) → fM [] [824] m m3 → WP g gr (d + 1) mX10_laysCode 0 0 39 [.ref 810, .int (nI (cdA G a (gn G) ++ cdB G a 0).length), .int (nI 0), .retAddr 0] [] (mk m3) Q := by
      refine up_to (n := gn G) (P := fun i => ∀ m', rowL (m'.1 824) (cdA G a (gn G) ++ cdB G a i) → fM [] [824] m m' → WP g gr (d + 1) mX10_laysCode 0 0 39 [.ref 810, .int (nI (cdA G a (gn G) ++ cdB G a i).length), .int (nI i), .retAddr 0] [] (mk m') Q) ?_ ?_ 0 (Nat.zero_le _)
      · intro m3 c3 c6
        have px3 := pD_fM hp c6
        refine b_X10_laysCode_39 (pk_le (gn G) (gn G) (fun _ => K m3 (fun i hi => ?_) c6) (fun z => absurd z (Nat.lt_irrefl _)) px3.1)
        exact c3 i (by show i < (cdl G a).length; rw [cdl_len]; exact hi)
      · intro i hi ih m3 c3 c6
        have px3 := pD_fM hp c6
        refine b_X10_laysCode_39 (pk_le (gn G) i (fun z => by omega) (fun _ => ?_) px3.1)
        rw [nI_1]
        have inner : ∀ m4, rowL (m4.1 824) (cdA G a (gn G) ++ (cdB G a i ++ cdR G a i 0)) → fM [] [824] m m4 → WP g gr (d + 1) mX10_laysCode 0 0 51 [.ref 810, .int (nI (cdA G a (gn G) ++ (cdB G a i ++ cdR G a i 0)).length), .int (nI i), .int (nI (i + 1 + 0))] [] (mk m4) Q := by
          refine up_to (n := gn G - 1 - i) (P := fun d' => ∀ m', rowL (m'.1 824) (cdA G a (gn G) ++ (cdB G a i ++ cdR G a i d')) → fM [] [824] m m' → WP g gr (d + 1) mX10_laysCode 0 0 51 [.ref 810, .int (nI (cdA G a (gn G) ++ (cdB G a i ++ cdR G a i d')).length), .int (nI i), .int (nI (i + 1 + d'))] [] (mk m') Q) ?_ ?_ 0 (Nat.zero_le _)
          · intro m4 d3 d6
            have px4 := pD_fM hp d6
            refine b_X10_laysCode_51 (pk_le (gn G) (i + 1 + (gn G - 1 - i)) (fun _ => ?_) (fun z => by omega) px4.1)
            rw [nI_1]
            exact ih m4 d3 d6
          · intro d' hd' ih2 m4 d3 d6
            have px4 := pD_fM hp d6
            have pe4 := pE_fM hE d6
            have hj : i + 1 + d' < gn G := by omega
            have hlen := hB i (d' + 1) hi (by omega)
            have elen : (cdA G a (gn G) ++ (cdB G a i ++ cdR G a i (d' + 1))).length = (cdA G a (gn G) ++ (cdB G a i ++ cdR G a i d')).length + 1 := by
              rw [List.length_append, List.length_append, List.length_append, List.length_append, cdR_len, cdR_len]; omega
            have hl28 := cl28 _ hlen
            have ai := ha i hi
            have aj := ha _ hj
            have eL : cdA G a (gn G) ++ (cdB G a i ++ cdR G a i (d' + 1)) = (cdA G a (gn G) ++ (cdB G a i ++ cdR G a i d')) ++ [gk G (a i) (a (i + 1 + d'))] := by
              show cdA G a (gn G) ++ (cdB G a i ++ (cdR G a i d' ++ [_])) = _
              rw [List.append_assoc, List.append_assoc]
            refine b_X10_laysCode_51 (pk_le (gn G) (i + 1 + d') (fun z => by omega) (fun _ => ?_) px4.1)
            refine d_vertexIn h7 px4.1 pe4 hc8 (by omega) (hx i hi) ?_
            refine b_X10_laysCode_75 ?_
            refine d_vertexIn h7 px4.1 pe4 hc8 (by omega) (hx _ hj) ?_
            refine b_X10_laysCode_81 ?_
            have e7 : (7 : Int32) * nI (vi c (gn G) i) + nI (vi c (gn G) (i + 1 + d')) = nI (7 * a i + a (i + 1 + d')) := by rw [show (7 : Int32) = nI 7 from rfl, pk_mul, nI_add]
            rw [e7]
            refine ⟨pk_in (7 * a i + a (i + 1 + d')) 49 (by omega), pk_in (cdA G a (gn G) ++ (cdB G a i ++ cdR G a i d')).length 28 (by omega), ?_⟩
            rw [nI_clamp (show 7 * a i + a (i + 1 + d') < 2 ^ 31 by omega), nI_clamp (show (cdA G a (gn G) ++ (cdB G a i ++ cdR G a i d')).length < 2 ^ 31 by omega), px4.2.2 _ _ ai aj, nI_1, nI_1, ← elen]
            refine ih2 _ ?_ (fM_trans d6 fM_r)
            rw [eL]
            exact rowL_app d3 rI_s (fun t ht => rI_n (by omega))
        exact inner m3 (by show rowL _ (cdA G a (gn G) ++ (cdB G a i ++ [])); rw [List.append_nil]; exact c3) c6 |> fun h => by
          have e0 : cdA G a (gn G) ++ (cdB G a i ++ cdR G a i 0) = cdA G a (gn G) ++ cdB G a i := by show _ ++ (_ ++ []) = _; rw [List.append_nil]
          rw [e0] at h
          exact h
    have e0 : cdA G a (gn G) ++ cdB G a 0 = cdA G a (gn G) := by show _ ++ [] = _; rw [List.append_nil]
    have := start m2 (by rw [e0]; exact b3) b6
    rw [e0, cdA_len] at this
    exact this
  · intro k hk ih m2 b3 b6
    have px := pD_fM hp b6
    have pe2 := pE_fM hE b6
    have ak := ha k hk
    have hl28 := cl28 _ (hA (k + 1) hk)
    rw [cdA_len] at hl28
    refine b_X10_laysCode_4 (pk_le (gn G) k (fun z => by omega) (fun _ => ?_) px.1)
    refine d_vertexIn h7 px.1 pe2 hc8 (by omega) (hx k hk) ?_
    refine b_X10_laysCode_26 ⟨pk_in (a k) 7 (by omega), pk_in k 28 (by omega), ?_⟩
    rw [nI_clamp (show k < 2 ^ 31 by omega), nI_clamp (show vi c (gn G) k < 2 ^ 31 by have : vi c (gn G) k < gn G := ak; omega), px.2.1 _ ak, nI_1]
    refine ih _ ?_ (fM_trans b6 fM_r)
    show rowL _ (cdA G a k ++ [gc G (a k)])
    refine rowL_app b3 ?_ (fun j hj => ?_)
    · rw [cdA_len]; exact rI_s
    · rw [cdA_len] at hj; exact rI_n (by omega)
theorem d_comparesBest {n t : Nat} {l l' : Lf} (he : 1 ≤ e) (hn7 : n ≤ 7) (hn : m.1 810 21 = nI n) (ht : t = l_d l) (hms : ∀ i, i ≤ l_d l → m.1 823 i = nI (l_m l i)) (hcd : ∀ i, i < cln n → m.1 824 i = nI (l_c l i)) (hB : pB m n l') (hl : lmk n l) (hl' : lmk n l') (hc : lcd n l) (hc' : lcd n l')
    (K : ∀ r : Int32, (r < 0 ↔ ky l < ky l') → (r = 0 ↔ ky l = ky l') → Q (some (.int r)) (mk m)) : Ok g gr e mX10_comparesBest 0 0 [.ref 810, .int (nI t)] (mk m) Q := by
  obtain ⟨d, rfl⟩ := dn he
  subst ht
  have a1 := hl.1
  have a2 := hl'.1
  have hcl := (cln_tab n hn7).2
  -- by marks up to the lesser depth
  have go : ∀ s, s ≤ l_d l → s ≤ l_d l' → (s = l_d l ∨ s = l_d l') → Ok g gr d mX10_compares 0 0 [.ref 823, .int (nI 0), .ref 825, .int (nI 0), .int (nI (s + 1))] (mk m) (fun r h2 => WP g gr (d + 1) mX10_comparesBest 0 0 33 [.ref 810, .retAddr 0, .retAddr 0, .retAddr 0] (r.toList ++ []) h2 Q) := by
    intro s s1 s2 s3
    refine d_compares (B := 100000000) (f := l_m l) (h := l_m l') a_823 a_825 (by omega) (by omega) (by decide) (by decide) (by decide) (fun k hk => ⟨by rw [Nat.zero_add]; exact hms k (by omega), hl.2.2.2.2 k⟩) (fun k hk => ⟨by rw [Nat.zero_add]; exact hB.2.1 k (by omega), hl'.2.2.2.2 k⟩) (fun r r1 r2 => ?_)
    refine b_X10_comparesBest_33 ⟨fun z => ?_, fun z => ?_⟩
    · have he1 := nm_inj (fun i _ => hl.2.2.2.2 i) (fun i _ => hl'.2.2.2.2 i) (r2.mp z)
      have ed : l_d l = l_d l' := by
        apply Classical.byContradiction
        intro hne
        rcases Nat.lt_trichotomy (l_d l) (l_d l') with w | w | w
        · have := hl'.2.1 (l_d l) w
          have := he1 (l_d l) (by omega)
          have := hl.2.2.1
          omega
        · exact hne w
        · have := hl.2.1 (l_d l') w
          have := he1 (l_d l') (by omega)
          have := hl'.2.2.1
          omega
      obtain ⟨k1, k2⟩ := ky_same (l := l) (l' := l') (fun j _ => by
        by_cases w : j < s + 1
        · exact he1 j w
        · rw [hl.2.2.2.1 j (by omega), hl'.2.2.2.1 j (by omega)])
      rw [hn, i_cln n (by omega)]
      refine d_compares (i := 0) (j := 0) (B := 10) (f := l_c l) (h := l_c l') a_824 a_826 (by omega) (by omega) (by decide) (by decide) (by decide) (fun k hk => ⟨by rw [Nat.zero_add]; exact hcd k hk, hc.1 k⟩) (fun k hk => ⟨by rw [Nat.zero_add]; exact hB.2.2.1 k hk, hc'.1 k⟩) (fun r' r1' r2' => ?_)
      have up : nm 10 (l_c l) 28 = nm 10 (l_c l) (cln n) * 10 ^ (28 - cln n) := nm_low hcl (fun i h1 _ => hc.2 i h1)
      have up' : nm 10 (l_c l') 28 = nm 10 (l_c l') (cln n) * 10 ^ (28 - cln n) := nm_low hcl (fun i h1 _ => hc'.2 i h1)
      have hpos : 0 < 10 ^ (28 - cln n) := Nat.pow_pos (by decide)
      refine b_X10_comparesBest_59 (K r' ?_ ?_)
      · rw [r1', k1]; unfold kc; rw [up, up']
        exact ⟨fun h => Nat.mul_lt_mul_of_pos_right h hpos, fun h => Nat.lt_of_mul_lt_mul_right h⟩
      · rw [r2', k2]; unfold kc; rw [up, up']
        exact ⟨fun h => by rw [h], fun h => Nat.eq_of_mul_eq_mul_right hpos h⟩
    · rcases Nat.lt_trichotomy (nm 100000000 (l_m l) (s + 1)) (nm 100000000 (l_m l') (s + 1)) with w | w | w
      · obtain ⟨i, i1, i2, i3⟩ := nm_split (fun i _ => hl.2.2.2.2 i) (fun i _ => hl'.2.2.2.2 i) w
        have := ky_mark hc hl.2.2.2.2 (show i < 7 by omega) i2 i3
        refine K r ?_ ?_
        · rw [r1]; omega
        · rw [r2]; omega
      · exact absurd (r2.mpr w) z
      · obtain ⟨i, i1, i2, i3⟩ := nm_split (fun i _ => hl'.2.2.2.2 i) (fun i _ => hl.2.2.2.2 i) w
        have := ky_mark hc' hl'.2.2.2.2 (show i < 7 by omega) i2 i3
        refine K r ?_ ?_
        · rw [r1]; omega
        · rw [r2]; omega
  refine b_X10_comparesBest_0 (pk_le (l_d l') (l_d l) (fun z => ?_) (fun z => ?_) hB.1)
  · rw [hB.1, nI_1]
    exact go (l_d l') z (Nat.le_refl _) (Or.inr rfl)
  · rw [nI_1]
    exact go (l_d l) (Nat.le_refl _) (by omega) (Or.inl rfl)
theorem d_isBest {n q : Nat} {l : Lf} {c : Nat → Nat} (he : 1 ≤ e) (hn7 : n ≤ 7) (hn : m.1 810 21 = nI n) (hE : pE m n c q) (hc : cwf n c q) (h0 : tg c n q = 0) (hd : l_d l ≤ 6) (hms : ∀ i, i ≤ l_d l → m.1 823 i = nI (l_m l i)) (hcd : ∀ i, i < cln n → m.1 824 i = nI (l_c l i)) (hla : l_a l = vi c n)
    (K : ∀ m', pB m' n l → fM [35] [825, 826, 827] m m' → Q none (mk m')) : Ok g gr e mX10_isBest 0 0 [.ref 810, .int (nI (l_d l))] (mk m) Q := by
  obtain ⟨d, rfl⟩ := dn he
  have hq := disc_q hc h0
  have hc8 : ∀ v, v < n → c v < 8 := fun v hv => by have := hc.1 v hv; omega
  have hvp := (vi_pe hc h0).1.1
  have hcl := (cln_tab n hn7).2
  refine b_X10_isBest_0 ?_
  refine up_to (n := l_d l + 1) (P := fun k => ∀ m', m'.1 810 35 = nI (l_d l) → (∀ i, i < k → m'.1 825 i = nI (l_m l i)) → fM [35] [825, 826, 827] m m' → WP g gr (d + 1) mX10_isBest 0 0 7 [.ref 810, .int (nI (l_d l)), .int (nI k)] [] (mk m') Q) ?_ ?_ 0 (Nat.zero_le _) _ rI_s (fun i hi => absurd hi (Nat.not_lt_zero _)) fM_f
  · intro m1 a1 a2 a3
    refine b_X10_isBest_7 (pk_lt (l_d l) (l_d l + 1) (fun _ => ?_) (fun z => by omega))
    refine up_to (n := cln n) (P := fun k => ∀ m', m'.1 810 35 = nI (l_d l) → (∀ i, i ≤ l_d l → m'.1 825 i = nI (l_m l i)) → (∀ i, i < k → m'.1 826 i = nI (l_c l i)) → fM [35] [825, 826, 827] m m' → WP g gr (d + 1) mX10_isBest 0 0 32 [.ref 810, .retAddr 0, .int (nI k)] [] (mk m') Q) ?_ ?_ 0 (Nat.zero_le _) m1 a1 (fun i hi => a2 i (by omega)) (fun i hi => absurd hi (Nat.not_lt_zero _)) a3
    · intro m2 b1 b2 b3 b4
      refine b_X10_isBest_32 (pk_le (cln n) (cln n) (fun _ => ?_) (fun z => absurd z (Nat.lt_irrefl _)) (by rw [fM_2 b4, hn, i_cln n (by omega)]))
      refine up_to (n := n) (P := fun k => ∀ m', m'.1 810 35 = nI (l_d l) → (∀ i, i ≤ l_d l → m'.1 825 i = nI (l_m l i)) → (∀ i, i < cln n → m'.1 826 i = nI (l_c l i)) → (∀ j, j < k → m'.1 827 j = nI (l_a l j)) → fM [35] [825, 826, 827] m m' → WP g gr (d + 1) mX10_isBest 0 0 60 [.ref 810, .retAddr 0, .int (nI k)] [] (mk m') Q) ?_ ?_ 0 (Nat.zero_le _) m2 b1 b2 b3 (fun i hi => absurd hi (Nat.not_lt_zero _)) b4
      · intro m3 c1 c2 c3 c4 c5
        exact b_X10_isBest_60 (pk_le n n (fun _ => K m3 ⟨c1, c2, c3, c4⟩ c5) (fun z => absurd z (Nat.lt_irrefl _)) (by rw [fM_2 c5]; exact hn))
      · intro k hk ih m3 c1 c2 c3 c4 c5
        have hv := hvp k hk
        refine b_X10_isBest_60 (pk_le n k (fun z => by omega) (fun _ => ?_) (by rw [fM_2 c5]; exact hn))
        refine d_vertexIn hn7 (by rw [fM_2 c5]; exact hn) (pE_fM hE c5) hc8 (by omega) (hc.2 k (by omega)) ?_
        refine b_X10_isBest_78 ⟨pk_in k 7 (by omega), ?_⟩
        rw [nI_clamp (show k < 2 ^ 31 by omega), nI_1]
        refine ih _ (by rw [rI_n (by omega)]; exact c1) (fun i hi => by rw [rI_n (by omega)]; exact c2 i hi) (fun i hi => by rw [rI_n (by omega)]; exact c3 i hi) (fun j hj => ?_) (fM_trans c5 fM_r)
        by_cases z : j = k
        · subst z; rw [rI_s, hla]
        · rw [rI_n (fun w => z w.2)]; exact c4 j (by omega)
    · intro k hk ih m2 b1 b2 b3 b4
      refine b_X10_isBest_32 (pk_le (cln n) k (fun z => by omega) (fun _ => ⟨pk_in k 28 (by omega), ?_⟩) (by rw [fM_2 b4, hn, i_cln n (by omega)]))
      rw [nI_clamp (show k < 2 ^ 31 by omega), fM_1 b4 (a := 824), hcd k hk, nI_1]
      refine ih _ (by rw [rI_n (by omega)]; exact b1) (fun i hi => by rw [rI_n (by omega)]; exact b2 i hi) (fun j hj => ?_) (fM_trans b4 fM_r)
      by_cases z : j = k
      · subst z; exact rI_s
      · rw [rI_n (fun w => z w.2)]; exact b3 j (by omega)
  · intro k hk ih m1 a1 a2 a3
    refine b_X10_isBest_7 (pk_lt (l_d l) k (fun z => by omega) (fun _ => ⟨pk_in k 8 (by omega), ?_⟩))
    rw [nI_clamp (show k < 2 ^ 31 by omega), fM_1 a3 (a := 823), hms k (by omega), nI_1]
    refine ih _ (by rw [rI_n (by omega)]; exact a1) (fun j hj => ?_) (fM_trans a3 fM_r)
    by_cases z : j = k
    · subst z; exact rI_s
    · rw [rI_n (fun w => z w.2)]; exact a2 j (by omega)
theorem d_saves {n q t : Nat} {c : Nat → Nat} (hn7 : n ≤ 7) (hn : m.1 810 21 = nI n) (ht : t ≤ 6) (hE : pE m n c q) (K : ∀ m', (∀ v, v < n → m'.1 822 (7 * t + v) = nI (c v)) → (∀ i, i < 7 * t → m'.1 822 i = m.1 822 i) → fM [] [822] m m' → Q none (mk m')) : Ok g gr e mX10_saves 0 0 [.ref 810, .int (nI t)] (mk m) Q := by
  refine b_X10_saves_0 (d := e) (up_to (n := n) (P := fun v => ∀ m', (∀ u, u < v → m'.1 822 (7 * t + u) = nI (c u)) → (∀ i, i < 7 * t → m'.1 822 i = m.1 822 i) → fM [] [822] m m' → WP g gr e mX10_saves 0 0 2 [.ref 810, .int (nI t), .int (nI v)] [] (mk m') Q) ?_ ?_ 0 (Nat.zero_le _) m (fun u hu => absurd hu (Nat.not_lt_zero _)) (fun _ _ => rfl) (fM_refl _ _ _))
  · intro m' a1 a2 a3
    exact b_X10_saves_2 (d := e) (pk_le n n (fun _ => K m' a1 a2 a3) (fun z => absurd z (Nat.lt_irrefl _)) (by rw [fM_2 a3]; exact hn))
  · intro v hv ih m' a1 a2 a3
    refine b_X10_saves_2 (d := e) (pk_le n v (fun z => by omega) (fun _ => ⟨pk_in v 7 (by omega), ?_⟩) (by rw [fM_2 a3]; exact hn))
    rw [show (7 : Int32) = nI 7 from rfl, pk_mul, nI_add, nI_clamp (show 7 * t + v < 2 ^ 31 by omega), nI_clamp (show v < 2 ^ 31 by omega), fM_1 a3 (a := 819), hE.1 v hv, nI_1]
    refine ⟨pk_in (7 * t + v) 56 (by omega), ih _ (fun u hu => ?_) (fun i hi => by rw [rI_n (by omega)]; exact a2 i hi) (fM_trans a3 fM_r)⟩
    by_cases z : u = v
    · subst z; exact rI_s
    · rw [rI_n (by omega)]; exact a1 u (by omega)
theorem d_comesBack {n q t : Nat} {c : Nat → Nat} (hn7 : n ≤ 7) (hn : m.1 810 21 = nI n) (ht : t ≤ 6) (hs : ∀ v, v < n → m.1 822 (7 * t + v) = nI (c v)) (K : ∀ m', pE m' n c q → fM [25] [819] m m' → Q none (mk m')) : Ok g gr e mX10_comesBack 0 0 [.ref 810, .int (nI t), .int (nI q)] (mk m) Q := by
  refine b_X10_comesBack_0 (d := e) (up_to (n := n) (P := fun v => ∀ m', (∀ u, u < v → m'.1 819 u = nI (c u)) → fM [25] [819] m m' → WP g gr e mX10_comesBack 0 0 2 [.ref 810, .int (nI t), .int (nI q), .int (nI v)] [] (mk m') Q) ?_ ?_ 0 (Nat.zero_le _) m (fun u hu => absurd hu (Nat.not_lt_zero _)) (fM_refl _ _ _))
  · intro m' a1 a3
    exact b_X10_comesBack_2 (d := e) (pk_le n n (fun _ => K _ ⟨fun v hv => by rw [rI_n (by omega)]; exact a1 v hv, rI_s⟩ (fM_trans a3 fM_f)) (fun z => absurd z (Nat.lt_irrefl _)) (by rw [fM_2 a3]; exact hn))
  · intro v hv ih m' a1 a3
    refine b_X10_comesBack_2 (d := e) (pk_le n v (fun z => by omega) (fun _ => ?_) (by rw [fM_2 a3]; exact hn))
    rw [show (7 : Int32) = nI 7 from rfl, pk_mul, nI_add, nI_clamp (show 7 * t + v < 2 ^ 31 by omega), nI_clamp (show v < 2 ^ 31 by omega), fM_1 a3 (a := 822), hs v hv, nI_1]
    refine ⟨pk_in (7 * t + v) 56 (by omega), pk_in v 7 (by omega), ih _ (fun u hu => ?_) (fM_trans a3 fM_r)⟩
    by_cases z : u = v
    · subst z; exact rI_s
    · rw [rI_n (fun w => z w.2)]; exact a1 u (by omega)
end ZMo
