/-! the model: pictures, a graph laid aside, signs, a round -/
def fM (F A : List Nat) (m m' : zm) : Prop := (∀ a, a ≠ 810 → a ∉ A → m'.1 a = m.1 a) ∧ (∀ k, k ∉ F → m'.1 810 k = m.1 810 k) ∧ m'.2 = m.2
theorem fM_refl (F A : List Nat) (m : zm) : fM F A m m := ⟨fun _ _ _ => rfl, fun _ _ => rfl, rfl⟩
theorem fM_trans {F A : List Nat} {m m' m'' : zm} (h1 : fM F A m m') (h2 : fM F A m' m'') : fM F A m m'' := ⟨fun a x y => (h2.1 a x y).trans (h1.1 a x y), fun k x => (h2.2.1 k x).trans (h1.2.1 k x), h2.2.2.trans h1.2.2⟩
theorem fM_mono {F A F' A' : List Nat} {m m' : zm} (h : fM F A m m') (hF : ∀ k ∈ F, k ∈ F' := by decide) (hA : ∀ k ∈ A, k ∈ A' := by decide) : fM F' A' m m' := ⟨fun a x y => h.1 a x fun z => y (hA a z), fun k x => h.2.1 k fun z => x (hF k z), h.2.2⟩
theorem fM_f {F A : List Nat} {m : zm} {k : Nat} {v : Int32} (h : k ∈ F := by decide) : fM F A m (wI m 810 k v) := ⟨fun a x _ => funext fun j => rI_n fun q => x q.1, fun j x => rI_n fun q => x (q.2 ▸ h), rfl⟩
theorem fM_r {F A : List Nat} {m : zm} {a k : Nat} {v : Int32} (h : a ∈ A := by decide) (h2 : a ≠ 810 := by decide) : fM F A m (wI m a k v) := ⟨fun b _ y => funext fun j => rI_n fun q => y (q.1 ▸ h), fun j _ => rI_n fun q => h2 q.1.symm, rfl⟩
theorem fM_1 {F A : List Nat} {m m' : zm} (f : fM F A m m') {a : Nat} (k : Nat) (h1 : a ≠ 810 := by decide) (h2 : a ∉ A := by decide) : m'.1 a k = m.1 a k := congrFun (f.1 a h1 h2) k
theorem fM_2 {F A : List Nat} {m m' : zm} (f : fM F A m m') {k : Nat} (h : k ∉ F := by decide) : m'.1 810 k = m.1 810 k := f.2.1 k h
def pW (m : zm) (g : Nat) (G : Gr) : Prop := m.1 811 (57 * g) = nI (gn G) ∧ (∀ v, v < 7 → m.1 811 (57 * g + 1 + v) = nI (gc G v)) ∧ ∀ a b, a < 7 → b < 7 → m.1 811 (57 * g + 8 + 7 * a + b) = nI (gk G a b)
def pD (m : zm) (G : Gr) : Prop := m.1 810 21 = nI (gn G) ∧ (∀ v, v < gn G → m.1 817 v = nI (gc G v)) ∧ ∀ a b, a < gn G → b < gn G → m.1 818 (7 * a + b) = nI (gk G a b)
def pE (m : zm) (n : Nat) (c : Nat → Nat) (q : Nat) : Prop := (∀ v, v < n → m.1 819 v = nI (c v)) ∧ m.1 810 25 = nI q
theorem pW_fM {F A : List Nat} {m m' : zm} {g : Nat} {G : Gr} (h : pW m g G) (f : fM F A m m') (h2 : 811 ∉ A := by decide) : pW m' g G := by
  have q := f.1 811 (by decide) h2
  exact ⟨by rw [q]; exact h.1, fun v hv => by rw [q]; exact h.2.1 v hv, fun a b ha hb => by rw [q]; exact h.2.2 a b ha hb⟩
theorem pD_fM {F A : List Nat} {m m' : zm} {G : Gr} (h : pD m G) (f : fM F A m m') (h1 : 817 ∉ A := by decide) (h2 : 818 ∉ A := by decide) (h3 : 21 ∉ F := by decide) : pD m' G := by
  have q1 := f.1 817 (by decide) h1
  have q2 := f.1 818 (by decide) h2
  exact ⟨by rw [f.2.1 21 h3]; exact h.1, fun v hv => by rw [q1]; exact h.2.1 v hv, fun a b ha hb => by rw [q2]; exact h.2.2 a b ha hb⟩
theorem pE_fM {F A : List Nat} {m m' : zm} {n q : Nat} {c : Nat → Nat} (h : pE m n c q) (f : fM F A m m') (h1 : 819 ∉ A := by decide) (h2 : 25 ∉ F := by decide) : pE m' n c q := by
  have q1 := f.1 819 (by decide) h1
  exact ⟨fun v hv => by rw [q1]; exact h.1 v hv, by rw [f.2.1 25 h2]; exact h.2⟩
theorem pE_cong {m : zm} {n q : Nat} {c c' : Nat → Nat} (h : pE m n c q) (e : ∀ v, v < n → c v = c' v) : pE m n c' q := ⟨fun v hv => by rw [h.1 v hv, e v hv], h.2⟩
section ZMo
variable {g : zG} {gr : Bool} {e : Nat} {m : zm} {Q : Option Value → zH → Prop}
theorem d_lays {w : Nat} {G : Gr} (he : 1 ≤ e) (hG : gWF G) (hw : w < 3) (hp : pW m w G) (K : ∀ m', pD m' G → fM [21] [817, 818] m m' → Q none (mk m')) : Ok g gr e mX10_lays 0 0 [.ref 810, .int (nI w)] (mk m) Q := by
  obtain ⟨d, rfl⟩ := dn he
  have h7 := hG.2.1.2
  have e57 : (57 : Int32) * nI w = nI (57 * w) := pk_mul 57 w
  refine b_X10_lays_0 ?_
  rw [e57, nI_clamp (show 57 * w < 2 ^ 31 by omega), hp.1]
  refine ⟨pk_in (57 * w) 171 (by omega), ?_⟩
  refine up_to (n := gn G) (P := fun v => ∀ m', m'.1 810 21 = nI (gn G) → (∀ u, u < v → m'.1 817 u = nI (gc G u)) → (∀ a b, a < v → b < gn G → m'.1 818 (7 * a + b) = nI (gk G a b)) → fM [21] [817, 818] m m' → WP g gr (d + 1) mX10_lays 0 0 11 [.ref 810, .int (nI w), .int (nI v), .retAddr 0] [] (mk m') Q) ?_ ?_ 0 (Nat.zero_le _) _ rI_s (fun u hu => absurd hu (Nat.not_lt_zero _)) (fun a b ha => absurd ha (Nat.not_lt_zero _)) fM_f
  · intro m' a1 a2 a3 a4
    exact b_X10_lays_11 (pk_le (gn G) (gn G) (fun _ => K m' ⟨a1, a2, a3⟩ a4) (fun z => absurd z (Nat.lt_irrefl _)) a1)
  · intro v hv ih m' a1 a2 a3 a4
    refine b_X10_lays_11 (pk_le (gn G) v (fun z => by omega) (fun _ => ?_) a1)
    rw [e57, show (1 : Int32) = nI 1 from rfl, nI_add, nI_add, nI_clamp (show 57 * w + 1 + v < 2 ^ 31 by omega), nI_clamp (show v < 2 ^ 31 by omega), fM_1 a4 (a := 811), hp.2.1 v (by omega)]
    refine ⟨pk_in (57 * w + 1 + v) 171 (by omega), pk_in v 7 (by omega), ?_⟩
    refine up_to (n := gn G) (P := fun b => ∀ m', m'.1 810 21 = nI (gn G) → (∀ u, u < v + 1 → m'.1 817 u = nI (gc G u)) → (∀ a b, a < v → b < gn G → m'.1 818 (7 * a + b) = nI (gk G a b)) → (∀ x, x < b → m'.1 818 (7 * v + x) = nI (gk G v x)) → fM [21] [817, 818] m m' → WP g gr (d + 1) mX10_lays 0 0 33 [.ref 810, .int (nI w), .int (nI v), .int (nI b)] [] (mk m') Q) ?_ ?_ 0 (Nat.zero_le _) _ (by rw [rI_n (by omega)]; exact a1) (fun u hu => ?_) (fun a b ha hb => by rw [rI_n (by omega)]; exact a3 a b ha hb) (fun x hx => absurd hx (Nat.not_lt_zero _)) (fM_trans a4 fM_r)
    · intro m2 b1 b2 b3 b4 b5
      refine b_X10_lays_33 (pk_le (gn G) (gn G) (fun _ => ?_) (fun z => absurd z (Nat.lt_irrefl _)) b1)
      rw [nI_1]
      refine ih m2 b1 b2 (fun a b ha hb => ?_) b5
      by_cases z : a = v
      · subst z; exact b4 b hb
      · exact b3 a b (by omega) hb
    · intro b hb ih2 m2 b1 b2 b3 b4 b5
      refine b_X10_lays_33 (pk_le (gn G) b (fun z => by omega) (fun _ => ?_) b1)
      rw [e57, show (8 : Int32) = nI 8 from rfl, show (7 : Int32) = nI 7 from rfl, pk_mul, nI_add, nI_add, nI_add, nI_add, nI_clamp (show 57 * w + 8 + 7 * v + b < 2 ^ 31 by omega), nI_clamp (show 7 * v + b < 2 ^ 31 by omega), fM_1 b5 (a := 811), hp.2.2 v b (by omega) (by omega), nI_1]
      refine ⟨pk_in (57 * w + 8 + 7 * v + b) 171 (by omega), pk_in (7 * v + b) 49 (by omega), ?_⟩
      refine ih2 _ (by rw [rI_n (by omega)]; exact b1) (fun u hu => by rw [rI_n (by omega)]; exact b2 u hu) (fun x y hx hy => by rw [rI_n (by omega)]; exact b3 x y hx hy) (fun x hx => ?_) (fM_trans b5 fM_r)
      by_cases z : x = b
      · subst z; exact rI_s
      · rw [rI_n (by omega)]; exact b4 x (by omega)
    · by_cases z : u = v
      · subst z; exact rI_s
      · rw [rI_n (fun q => z q.2)]; exact a2 u (by omega)
theorem d_compares {x y nx ny i j many B : Nat} {f h : Nat → Nat} (hx : sA x 20 nx) (hy : sA y 20 ny) (hix : i + many ≤ nx) (hjy : j + many ≤ ny) (hnx : nx < 2 ^ 31) (hny : ny < 2 ^ 31) (hB : B ≤ 1000000000) (hf : ∀ k, k < many → m.1 x (i + k) = nI (f k) ∧ f k < B) (hh : ∀ k, k < many → m.1 y (j + k) = nI (h k) ∧ h k < B)
    (K : ∀ r : Int32, (r < 0 ↔ nm B f many < nm B h many) → (r = 0 ↔ nm B f many = nm B h many) → Q (some (.int r)) (mk m)) : Ok g gr e mX10_compares 0 0 [.ref x, .int (nI i), .ref y, .int (nI j), .int (nI many)] (mk m) Q := by
  refine b_X10_compares_0 (d := e) hx hy (up_to (n := many) (P := fun k => (∀ t, t < k → f t = h t) → WP g gr e mX10_compares 0 0 3 [.ref x, .int (nI i), .ref y, .int (nI j), .int (nI many), .int (nI k)] [] (mk m) Q) ?_ ?_ 0 (Nat.zero_le _) (fun t ht => absurd ht (Nat.not_lt_zero _)))
  · intro hs
    have := nm_cong (B := B) hs
    exact b_X10_compares_3 (d := e) hx hy (pk_le many many (fun _ => K 0 ⟨fun z => absurd z (by decide), fun z => by omega⟩ ⟨fun _ => this, fun _ => rfl⟩) (fun z => absurd z (Nat.lt_irrefl _)))
  · intro k hk ih hs
    obtain ⟨f1, f2⟩ := hf k hk
    obtain ⟨h1, h2⟩ := hh k hk
    refine b_X10_compares_3 (d := e) hx hy (pk_le many k (fun z => by omega) (fun _ => ?_))
    rw [nI_add, nI_add, nI_clamp (show i + k < 2 ^ 31 by omega), nI_clamp (show j + k < 2 ^ 31 by omega), f1, h1, nI_1]
    refine ⟨pk_in (i + k) nx (by omega), pk_in (j + k) ny (by omega), ?_⟩
    refine pk_eq (f k) (h k) (fun z => ih fun t ht => ?_) (fun z => pk_le (h k) (f k) (fun w => K 1 ?_ ?_) (fun w => K (-1) ?_ ?_))
    · by_cases w : t = k
      · subst w; exact z
      · exact hs t (by omega)
    · have := nm_lx (B := B) (fun t ht => (hh t ht).2) hk (fun t ht => (hs t ht).symm) (show h k < f k by omega)
      exact ⟨fun z => absurd z (by decide), fun z => by omega⟩
    · have := nm_lx (B := B) (fun t ht => (hh t ht).2) hk (fun t ht => (hs t ht).symm) (show h k < f k by omega)
      exact ⟨fun z => absurd z (by decide), fun z => by omega⟩
    · have := nm_lx (B := B) (fun t ht => (hf t ht).2) hk hs w
      exact ⟨fun _ => this, fun _ => by decide⟩
    · have := nm_lx (B := B) (fun t ht => (hf t ht).2) hk hs w
      exact ⟨fun z => absurd z (by decide), fun z => by omega⟩
def pSg (m : zm) (row : Nat) (G : Gr) (c : Nat → Nat) : Prop := ∀ v j, v < gn G → j < 22 → m.1 row (22 * v + j) = nI (dg G c v j)
theorem d_laysSigns {q : Nat} {G : Gr} {c : Nat → Nat} (hG : gWF G) (hp : pD m G) (hE : pE m (gn G) c q) (hc : cwf (gn G) c q) (K : ∀ m', pSg m' 820 G c → fM [] [820] m m' → Q none (mk m')) : Ok g gr e mX10_laysSigns 0 0 [.ref 810] (mk m) Q := by
  have h7 := hG.2.1.2
  have hq := cwf_le hc
  refine b_X10_laysSigns_0 (d := e) (up_to (n := gn G) (P := fun v => ∀ m', (∀ u j, u < v → j < 22 → m'.1 820 (22 * u + j) = nI (dg G c u j)) → fM [] [820] m m' → WP g gr e mX10_laysSigns 0 0 2 [.ref 810, .int (nI v), .retAddr 0, .retAddr 0] [] (mk m') Q) ?_ ?_ 0 (Nat.zero_le _) m (fun u j hu => absurd hu (Nat.not_lt_zero _)) (fM_refl _ _ _))
  · intro m' a1 a2
    exact b_X10_laysSigns_2 (d := e) (pk_le (gn G) (gn G) (fun _ => K m' (fun v j hv hj => a1 v j hv hj) a2) (fun z => absurd z (Nat.lt_irrefl _)) (by rw [fM_2 a2]; exact hp.1))
  · intro v hv ih m' a1 a2
    refine b_X10_laysSigns_2 (d := e) (pk_le (gn G) v (fun z => by omega) (fun _ => ?_) (by rw [fM_2 a2]; exact hp.1))
    have e22 : (22 : Int32) * nI v = nI (22 * v) := pk_mul 22 v
    refine up_to (n := 22) (P := fun k => ∀ m', (∀ u j, u < v → j < 22 → m'.1 820 (22 * u + j) = nI (dg G c u j)) → (∀ j, j < k → m'.1 820 (22 * v + j) = nI 0) → fM [] [820] m m' → WP g gr e mX10_laysSigns 0 0 12 [.ref 810, .int (nI v), .int (nI k), .retAddr 0] [] (mk m') Q) ?_ ?_ 0 (Nat.zero_le _) m' a1 (fun j hj => absurd hj (Nat.not_lt_zero _)) a2
    · intro m2 b1 b2 b3
      refine b_X10_laysSigns_12 (d := e) (pk_le 22 22 (fun _ => ?_) (fun z => absurd z (Nat.lt_irrefl _)))
      rw [e22, nI_clamp (show 22 * v < 2 ^ 31 by omega), nI_clamp (show v < 2 ^ 31 by omega), fM_1 b3 (a := 819), hE.1 v hv]
      refine ⟨pk_in v 7 (by omega), pk_in (22 * v) 154 (by omega), ?_⟩
      refine up_to (n := gn G) (P := fun u => ∀ m', (∀ u j, u < v → j < 22 → m'.1 820 (22 * u + j) = nI (dg G c u j)) → (∀ j, j < 22 → m'.1 820 (22 * v + j) = nI (if j = 0 then c v else fb_ct (fun u => decide (0 < gk G v u) && (3 * c u + gk G v u == j)) u)) → fM [] [820] m m' → WP g gr e mX10_laysSigns 0 0 53 [.ref 810, .int (nI v), .int (nI u), .retAddr 0] [] (mk m') Q) ?_ ?_ 0 (Nat.zero_le _) _ (fun u j hu hj => by rw [rI_n (by omega)]; exact b1 u j hu hj) (fun j hj => ?_) (fM_trans b3 fM_r)
      · intro m3 c1 c2 c3
        refine b_X10_laysSigns_53 (d := e) (pk_le (gn G) (gn G) (fun _ => ?_) (fun z => absurd z (Nat.lt_irrefl _)) (by rw [fM_2 c3]; exact hp.1))
        rw [nI_1]
        refine ih m3 (fun u j hu hj => ?_) c3
        by_cases z : u = v
        · subst z; exact c2 j hj
        · exact c1 u j (by omega) hj
      · intro u hu ih2 m3 c1 c2 c3
        have hku := hG.1.2.1 v u
        have hcu := hc.1 u hu
        have pos : ∀ j, fb_ct (fun u => decide (0 < gk G v u) && (3 * c u + gk G v u == j)) (u + 1) = fb_ct (fun u => decide (0 < gk G v u) && (3 * c u + gk G v u == j)) u + (if (decide (0 < gk G v u) && (3 * c u + gk G v u == j)) = true then 1 else 0) := fun j => fb_ct_succ _ _
        refine b_X10_laysSigns_53 (d := e) (pk_le (gn G) u (fun z => by omega) (fun _ => ?_) (by rw [fM_2 c3]; exact hp.1))
        rw [show (7 : Int32) = nI 7 from rfl, pk_mul, nI_add, nI_clamp (show 7 * v + u < 2 ^ 31 by omega), fM_1 c3 (a := 818), hp.2.2 v u hv hu, nI_clamp (show u < 2 ^ 31 by omega), fM_1 c3 (a := 819), hE.1 u hu, show (3 : Int32) = nI 3 from rfl, pk_mul, e22, nI_add, nI_add, nI_clamp (show 22 * v + 3 * c u + gk G v u < 2 ^ 31 by omega), nI_1]
        refine ⟨pk_in (7 * v + u) 49 (by omega), pk_le (gk G v u) 0 (fun z => ?_) (fun z => ⟨pk_in u 7 (by omega), pk_in (22 * v + 3 * c u + gk G v u) 154 (by omega), ?_⟩)⟩
        · refine ih2 m3 c1 (fun j hj => ?_) c3
          rw [c2 j hj, pos j, decide_eq_false (show ¬ 0 < gk G v u by omega)]
          rfl
        · rw [show 22 * v + 3 * c u + gk G v u = 22 * v + (3 * c u + gk G v u) by omega, c2 (3 * c u + gk G v u) (by omega), nI_1, if_neg (show ¬ (3 * c u + gk G v u = 0) by omega)]
          refine ih2 _ (fun x j hx hj => by rw [rI_n (by omega)]; exact c1 x j hx hj) (fun j hj => ?_) (fM_trans c3 fM_r)
          by_cases w : j = 3 * c u + gk G v u
          · rw [w, rI_s, if_neg (show ¬ (3 * c u + gk G v u = 0) by omega), pos, decide_eq_true (show 0 < gk G v u by omega), bq_t rfl]; rfl
          · rw [rI_n (by omega), c2 j hj, pos j, bq_f (fun y => w y.symm), Bool.and_false]
            rfl
      · by_cases z : j = 0
        · rw [z]; show (wI m2 820 (22 * v) _).1 820 (22 * v + 0) = _; rw [Nat.add_zero, rI_s, if_pos rfl]
        · rw [rI_n (by omega), b2 j hj, if_neg z]; rfl
    · intro k hk ih2 m2 b1 b2 b3
      refine b_X10_laysSigns_12 (d := e) (pk_le 22 k (fun z => by omega) (fun _ => ?_))
      rw [e22, nI_add, nI_clamp (show 22 * v + k < 2 ^ 31 by omega), nI_1]
      refine ⟨pk_in (22 * v + k) 154 (by omega), ?_⟩
      refine ih2 _ (fun u j hu hj => by rw [rI_n (by omega)]; exact b1 u j hu hj) (fun j hj => ?_) (fM_trans b3 fM_r)
      by_cases z : j = k
      · subst z; exact rI_s
      · rw [rI_n (by omega)]; exact b2 j (by omega)
theorem d_cmpS {x y v w q q' : Nat} {G H : Gr} {c c' : Nat → Nat} (hx : x = 820 ∨ x = 840) (hy : y = 820 ∨ y = 840) (hG : gWF G) (hH : gWF H) (hp : pSg m x G c) (hq : pSg m y H c') (hc : cwf (gn G) c q) (hc' : cwf (gn H) c' q') (hv : v < gn G) (hw : w < gn H)
    (K : ∀ r : Int32, (r < 0 ↔ sS G c v < sS H c' w) → (r = 0 ↔ sS G c v = sS H c' w) → Q (some (.int r)) (mk m)) : Ok g gr e mX10_compares 0 0 [.ref x, .int (nI (22 * v)), .ref y, .int (nI (22 * w)), .int (nI 22)] (mk m) Q := by
  have h7 := hG.2.1.2
  have h7' := hH.2.1.2
  have sx : sA x 20 154 := by rcases hx with rfl | rfl; exact a_820; exact a_840
  have sy : sA y 20 154 := by rcases hy with rfl | rfl; exact a_820; exact a_840
  have b1 := hc.1 v hv
  have b2 := hc'.1 w hw
  have b3 := cwf_le hc
  have b4 := cwf_le hc'
  exact d_compares (B := 8) (f := dg G c v) (h := dg H c' w) sx sy (by omega) (by omega) (by decide) (by decide) (by decide) (fun k hk => ⟨hp v k hv hk, dg_lt h7 (by omega) k⟩) (fun k hk => ⟨hq w k hw hk, dg_lt h7' (by omega) k⟩) K
theorem d_rankOf {v q : Nat} {G : Gr} {c : Nat → Nat} (he : 1 ≤ e) (hG : gWF G) (hn : m.1 810 21 = nI (gn G)) (hp : pSg m 820 G c) (hc : cwf (gn G) c q) (hv : v < gn G) (K : Q (some (.int (nI (rd G c v)))) (mk m)) : Ok g gr e mX10_rankOf 0 0 [.ref 810, .int (nI v)] (mk m) Q := by
  obtain ⟨d, rfl⟩ := dn he
  have h7 := hG.2.1.2
  have e22 : ∀ t, (22 : Int32) * nI t = nI (22 * t) := fun t => pk_mul 22 t
  refine b_X10_rankOf_0 (up_to (n := gn G) (P := fun o => WP g gr (d + 1) mX10_rankOf 0 0 4 [.ref 810, .int (nI v), .int (nI (fb_ct (fun o => fs (sS G c) o && decide (sS G c o < sS G c v)) o)), .int (nI o), .retAddr 0, .retAddr 0] [] (mk m) Q) ?_ (fun o ho ih => ?_) 0 (Nat.zero_le _))
  · exact b_X10_rankOf_4 (pk_le (gn G) (gn G) (fun _ => K) (fun z => absurd z (Nat.lt_irrefl _)) hn)
  · have es : fb_ct (fun o => fs (sS G c) o && decide (sS G c o < sS G c v)) (o + 1) = fb_ct (fun o => fs (sS G c) o && decide (sS G c o < sS G c v)) o + (if (fs (sS G c) o && decide (sS G c o < sS G c v)) = true then 1 else 0) := fb_ct_succ _ _
    refine b_X10_rankOf_4 (pk_le (gn G) o (fun z => by omega) (fun _ => ?_) hn)
    -- the flag: none ahead has this sign
    refine up_to (n := o) (P := fun p => ∀ b : Int32, (b = 1 ∧ (∀ t, t < p → sS G c t ≠ sS G c o)) ∨ (b = 0 ∧ ∃ t, t < p ∧ sS G c t = sS G c o) → WP g gr (d + 1) mX10_rankOf 0 0 18 [.ref 810, .int (nI v), .int (nI (fb_ct (fun o => fs (sS G c) o && decide (sS G c o < sS G c v)) o)), .int (nI o), .int b, .int (nI p)] [] (mk m) Q) ?_ ?_ 0 (Nat.zero_le _) 1 (Or.inl ⟨rfl, fun t ht => absurd ht (Nat.not_lt_zero _)⟩)
    · intro b hb
      refine b_X10_rankOf_18 (pk_le o o (fun _ => ?_) (fun z => absurd z (Nat.lt_irrefl _)))
      rcases hb with ⟨rfl, h1⟩ | ⟨rfl, h1⟩
      · have hfs : fs (sS G c) o = true := fs_iff.mpr h1
        refine ⟨fun z => absurd z (by decide), fun _ => ?_⟩
        rw [e22, e22]
        refine d_cmpS (Or.inl rfl) (Or.inl rfl) hG hG hp hp hc hc ho hv (fun r r1 r2 => ?_)
        refine b_X10_rankOf_94 ⟨fun z => ?_, fun z => ?_⟩
        · have : ¬ sS G c o < sS G c v := fun w => (Int32.not_lt.mpr z) (r1.mpr w)
          rw [show (0 : Int32) = nI 0 from rfl, nI_add, nI_1, Nat.add_zero]
          rw [es, hfs, decide_eq_false this] at ih
          exact ih
        · have : sS G c o < sS G c v := r1.mp (Int32.not_le.mp z)
          rw [nI_1, nI_1]
          rw [es, hfs, decide_eq_true this] at ih
          exact ih
      · have hfs : fs (sS G c) o = false := by
          cases h : fs (sS G c) o with
          | false => rfl
          | true => obtain ⟨t, t1, t2⟩ := h1; exact absurd t2 (fs_iff.mp h t t1)
        refine ⟨fun _ => ?_, fun z => absurd rfl z⟩
        rw [show (0 : Int32) = nI 0 from rfl, nI_add, nI_1, Nat.add_zero]
        rw [es, hfs] at ih
        exact ih
    · intro p hp2 ih2 b hb
      refine b_X10_rankOf_18 (pk_le o p (fun z => by omega) (fun _ => ?_))
      rcases hb with ⟨rfl, h1⟩ | ⟨rfl, h1⟩
      · refine ⟨fun z => absurd z (by decide), fun _ => ?_⟩
        rw [e22, e22]
        refine d_cmpS (Or.inl rfl) (Or.inl rfl) hG hG hp hp hc hc (by omega) ho (fun r r1 r2 => ?_)
        refine b_X10_rankOf_51 ?_
        rw [nI_1]
        refine ⟨fun z => ih2 0 (Or.inr ⟨rfl, p, Nat.lt_succ_self _, r2.mp z⟩), fun z => ih2 1 (Or.inl ⟨rfl, fun t ht => ?_⟩)⟩
        by_cases w : t = p
        · subst w; exact fun y => z (r2.mpr y)
        · exact h1 t (by omega)
      · refine ⟨fun _ => ?_, fun z => absurd rfl z⟩
        rw [nI_1]
        obtain ⟨t, t1, t2⟩ := h1
        exact ih2 0 (Or.inr ⟨rfl, t, by omega, t2⟩)
theorem d_goesRound {q : Nat} {G : Gr} {c : Nat → Nat} (he : 2 ≤ e) (hG : gWF G) (hp : pD m G) (hE : pE m (gn G) c q) (hc : cwf (gn G) c q) (K : ∀ m', pE m' (gn G) (rd G c) (rq G c) → pSg m' 820 G c → (∀ v, v < gn G → m'.1 821 v = nI (rd G c v)) → fM [25] [819, 820, 821] m m' → Q (some (.int (if q < rq G c then 1 else 0))) (mk m')) : Ok g gr e mX10_goesRound 0 0 [.ref 810] (mk m) Q := by
  obtain ⟨d, rfl⟩ := dn he
  have h7 := hG.2.1.2
  have hn1 := hG.2.1.1
  have hD := rd_Dn G c
  have hrq := cwf_le (rd_cwf G c)
  refine b_X10_goesRound_0 (d_laysSigns hG hp hE hc (fun m1 a1 a2 => ?_))
  have f1 : fM [25] [819, 820, 821] m m1 := fM_mono a2
  refine b_X10_goesRound_4 ?_
  refine up_to (n := gn G) (P := fun v => ∀ m' t, (∀ u, u < v → m'.1 821 u = nI (rd G c u)) → (∀ u, u < v → rd G c u ≤ t) → (t = 0 ∨ ∃ u, u < v ∧ rd G c u = t) → t < 7 → pSg m' 820 G c → pE m' (gn G) c q → fM [25] [819, 820, 821] m m' → WP g gr (d + 2) mX10_goesRound 0 0 8 [.ref 810, .int (nI t), .int (nI v), .retAddr 0] [] (mk m') Q) ?_ ?_ 0 (Nat.zero_le _) m1 0 (fun u hu => absurd hu (Nat.not_lt_zero _)) (fun u hu => absurd hu (Nat.not_lt_zero _)) (Or.inl rfl) (by decide) a1 (pE_fM hE a2) f1
  · intro m' t b1 b2 b3 bt b4 b5 b6
    have et : t + 1 = rq G c := by
      obtain ⟨u, hu, eu⟩ := hD.2.2 (rq G c - 1) (by have := hD.2.1 0 (by omega); omega)
      have h1 := b2 u hu
      rcases b3 with z | ⟨x, x1, x2⟩
      · have := hD.2.1 0 (by omega); omega
      · have := hD.2.1 x x1; omega
    have fin : ∀ b : Int32, (b = if q < rq G c then 1 else 0) → WP g gr (d + 2) mX10_goesRound 0 0 72 [.ref 810, .int (nI t), .int b, .int (nI 0)] [] (mk m') Q := fun b hb => by
      refine up_to (n := gn G) (P := fun v => ∀ m', (∀ u, u < gn G → m'.1 821 u = nI (rd G c u)) → (∀ u, u < v → m'.1 819 u = nI (rd G c u)) → pSg m' 820 G c → fM [25] [819, 820, 821] m m' → WP g gr (d + 2) mX10_goesRound 0 0 72 [.ref 810, .int (nI t), .int b, .int (nI v)] [] (mk m') Q) ?_ ?_ 0 (Nat.zero_le _) m' b1 (fun u hu => absurd hu (Nat.not_lt_zero _)) b4 b6
      · intro m2 c1 c2 c3 c4
        refine b_X10_goesRound_72 (pk_le (gn G) (gn G) (fun _ => ⟨?_, ?_⟩) (fun z => absurd z (Nat.lt_irrefl _)) (by rw [fM_2 c4]; exact hp.1))
        · rw [hb]; split
          · exact Or.inr rfl
          · exact Or.inl rfl
        · rw [nI_1, et, hb]
          exact K _ ⟨fun v hv => by rw [rI_n (by omega)]; exact c2 v hv, rI_s⟩ (fun v j hv hj => by rw [rI_n (by omega)]; exact c3 v j hv hj) (fun v hv => by rw [rI_n (by omega)]; exact c1 v hv) (fM_trans c4 fM_f)
      · intro v hv ih m2 c1 c2 c3 c4
        refine b_X10_goesRound_72 (pk_le (gn G) v (fun z => by omega) (fun _ => ⟨pk_in v 7 (by omega), ?_⟩) (by rw [fM_2 c4]; exact hp.1))
        rw [nI_clamp (show v < 2 ^ 31 by omega), c1 v hv, nI_1]
        refine ih _ (fun u hu => by rw [rI_n (by omega)]; exact c1 u hu) (fun u hu => ?_) (fun v j hv hj => by rw [rI_n (by omega)]; exact c3 v j hv hj) (fM_trans c4 fM_r)
        by_cases z : u = v
        · subst z; exact rI_s
        · rw [rI_n (fun q => z q.2)]; exact c2 u (by omega)
    refine b_X10_goesRound_8 (pk_le (gn G) (gn G) (fun _ => ?_) (fun z => absurd z (Nat.lt_irrefl _)) (by rw [fM_2 b6]; exact hp.1))
    have hq7 := cwf_le hc
    rw [nI_1, et, b5.2]
    refine pk_le (rq G c) q (fun z => fin 0 (by rw [if_neg (by omega)])) (fun z => fin 1 (by rw [if_pos z]))
  · intro v hv ih m' t b1 b2 b3 bt b4 b5 b6
    have hrv := hD.2.1 v hv
    refine b_X10_goesRound_8 (pk_le (gn G) v (fun z => by omega) (fun _ => ?_) (by rw [fM_2 b6]; exact hp.1))
    refine d_rankOf (by omega) hG (by rw [fM_2 b6]; exact hp.1) b4 hc hv ?_
    refine b_X10_goesRound_26 ⟨pk_in v 7 (by omega), ?_⟩
    rw [nI_clamp (show v < 2 ^ 31 by omega)]
    intro m2 e2
    have r2 : m2.1 821 v = nI (rd G c v) := by rw [e2, rI_s]
    have f2 : fM [25] [819, 820, 821] m m2 := fM_trans b6 (by rw [e2]; exact fM_r)
    have r3 : ∀ u, u < v + 1 → m2.1 821 u = nI (rd G c u) := fun u hu => by
      by_cases z : u = v
      · subst z; exact r2
      · rw [e2, rI_n (fun q => z q.2)]; exact b1 u (by omega)
    have r4 : pSg m2 820 G c := fun v j hv hj => by rw [e2, rI_n (by omega)]; exact b4 v j hv hj
    have r5 : pE m2 (gn G) c q := by rw [e2]; exact ⟨fun v hv => by rw [rI_n (by omega)]; exact b5.1 v hv, by rw [rI_n (by omega)]; exact b5.2⟩
    rw [r2, nI_1]
    refine ⟨pk_in v 7 (by omega), pk_le (rd G c v) t (fun z => ?_) (fun z => ?_)⟩
    · refine ih m2 t r3 (fun u hu => ?_) (b3.imp id (fun ⟨x, x1, x2⟩ => ⟨x, by omega, x2⟩)) bt r4 r5 f2
      by_cases w : u = v
      · subst w; exact z
      · exact b2 u (by omega)
    · refine ih m2 (rd G c v) r3 (fun u hu => ?_) (Or.inr ⟨v, Nat.lt_succ_self _, rfl⟩) (by omega) r4 r5 f2
      by_cases w : u = v
      · subst w; exact Nat.le_refl _
      · have := b2 u (by omega); omega
theorem d_refines {q : Nat} {G : Gr} {c : Nat → Nat} (he : 3 ≤ e) (hG : gWF G) (hp : pD m G) (hE : pE m (gn G) c q) (hc : cwf (gn G) c q) (hq : 1 ≤ q) (K : ∀ m', pE m' (gn G) (rfn G c q).1 (rfn G c q).2.1 → fM [25] [819, 820, 821] m m' → Q (some (.int (nI (rfn G c q).2.2))) (mk m')) : Ok g gr e mX10_refines 0 0 [.ref 810] (mk m) Q := by
  obtain ⟨d, rfl⟩ := dn he
  have h7 := hG.2.1.2
  refine b_X10_refines_0 ?_
  have key : ∀ k c' q' r m', cwf (gn G) c' q' → q' + k ≥ 8 → pE m' (gn G) c' q' → fM [25] [819, 820, 821] m m' → (∀ m'', pE m'' (gn G) (rf G k c' q').1 (rf G k c' q').2.1 → fM [25] [819, 820, 821] m m'' → Q (some (.int (nI (r + (rf G k c' q').2.2)))) (mk m'')) → WP g gr (d + 3) mX10_refines 0 0 2 [.ref 810, .int (nI r)] [] (mk m') Q := by
    intro k
    induction k with
    | zero => intro c' q' r m' a1 a2; have := cwf_le a1; omega
    | succ k ih =>
      intro c' q' r m' a1 a2 a4 a6 a7
      have hq' := cwf_le a1
      have px := pD_fM hp a6
      refine b_X10_refines_2 (pk_le (gn G) q' (fun z => ?_) (fun z => ?_) px.1 a4.2)
      · rw [rf_0 z] at a7
        exact a7 m' a4 a6
      · refine d_goesRound (by omega) hG px a4 a1 (fun m2 b1 b2 b3 b4 => ?_)
        have hrq := rq_ge h7 a1
        by_cases hlt : q' < rq G c'
        · rw [if_pos hlt]
          refine b_X10_refines_17 ⟨fun z => absurd z (by decide), fun _ => ?_⟩
          rw [nI_1]
          rw [rf_1 z hlt] at a7
          refine ih (rd G c') (rq G c') (r + 1) m2 (rd_cwf G c') (by omega) b1 (fM_trans a6 b4) (fun m3 c1 c3 => ?_)
          have := a7 m3 c1 c3
          rw [show r + ((rf G k (rd G c') (rq G c')).2.2 + 1) = r + 1 + (rf G k (rd G c') (rq G c')).2.2 by omega] at this
          exact this
        · rw [if_neg hlt]
          refine b_X10_refines_17 ⟨fun _ => ?_, fun z => absurd rfl z⟩
          rw [rf_2 z hlt] at a7
          exact a7 m2 b1 (fM_trans a6 b4)
  refine key 7 c q 0 m hc (by omega) hE (fM_refl _ _ _) (fun m'' a1 a2 => ?_)
  rw [Nat.zero_add]
  exact K m'' a1 a2
end ZMo
