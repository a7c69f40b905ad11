/-! the past, in the model -/
theorem pR_copy {m m' : zm} {r r' o o' : Nat} {G : Gr} (h : pR m r o G) (q : ∀ k, k < 57 → m'.1 r' (o' + k) = m.1 r (o + k)) : pR m' r' o' G := by
  refine ⟨?_, fun v hv => ?_, fun a b ha hb => ?_⟩
  · have := q 0 (by decide)
    rw [Nat.add_zero, Nat.add_zero] at this
    rw [this]; exact h.1
  · have := q (1 + v) (by omega)
    rw [← Nat.add_assoc, ← Nat.add_assoc] at this
    rw [this]; exact h.2.1 v hv
  · have := q (8 + 7 * a + b) (by omega)
    rw [← Nat.add_assoc, ← Nat.add_assoc, ← Nat.add_assoc, ← Nat.add_assoc] at this
    rw [this]; exact h.2.2 a b ha hb
theorem unw_0 (W : Nat → Gr) (P : List (Nat × Gr)) : unw W P 0 = W := by cases P <;> rfl
section ZPa
variable {g : zG} {gr : Bool} {e : Nat} {m : zm} {Q : Option Value → zH → Prop}
theorem d_keepsEnd {W : Nat → Gr} {B : Nat → Nat → Gr} {c : Nat} (hc7 : c ≤ 7) (hc : m.1 810 6 = nI c) (hw : ∀ x, x < 3 → pW m x (W x)) (hB : ∀ i, i < c → ∀ x, x < 3 → pR m 812 (171 * (c - 1 - i) + 57 * x) (B i x)) (K : ∀ m', m'.1 810 6 = nI (c + 1) → (∀ x, x < 3 → pR m' 812 (171 * c + 57 * x) (W x)) → (∀ i, i < c → ∀ x, x < 3 → pR m' 812 (171 * (c - 1 - i) + 57 * x) (B i x)) → fM [6] [812] m m' → Q none (mk m')) : WP g gr e mX10_keeps 0 0 52 [.ref 810, .int 0] [] (mk m) Q := by
  refine up_to (n := 171) (P := fun k => ∀ m', m'.1 810 6 = nI c → (∀ j, j < k → m'.1 812 (171 * c + j) = m.1 811 j) → (∀ j, j < 171 * c → m'.1 812 j = m.1 812 j) → fM [6] [812] m m' → WP g gr e mX10_keeps 0 0 52 [.ref 810, .int (nI k)] [] (mk m') Q) ?_ ?_ 0 (Nat.zero_le _) m hc (fun j hj => absurd hj (Nat.not_lt_zero _)) (fun _ _ => rfl) (fM_refl _ _ _)
  · intro m' a1 a2 a3 a4
    refine b_X10_keeps_52 (d := e) (pk_le 171 171 (fun _ => ?_) (fun z => absurd z (Nat.lt_irrefl _)))
    rw [a1, nI_1]
    refine K _ rI_s (fun x hx => pR_copy (hw x hx) fun k hk => ?_) (fun i hi x hx => pR_copy (hB i hi x hx) fun k hk => ?_) (fM_trans a4 fM_f)
    · rw [rI_n (by omega), Nat.add_assoc]; exact a2 _ (by omega)
    · rw [rI_n (by omega)]
      refine a3 _ ?_
      have : c - 1 - i + 1 ≤ c := by omega
      have := Nat.mul_le_mul_left 171 this
      omega
  · intro k hk ih m' a1 a2 a3 a4
    refine b_X10_keeps_52 (d := e) (pk_le 171 k (fun z => by omega) (fun _ => ?_))
    rw [a1, show (171 : Int32) = nI 171 from rfl, pk_mul, nI_add, nI_1, cw (show 171 * c + k < 2 ^ 31 by omega), cw (show k < 2 ^ 31 by omega), fM_1 a4 (a := 811)]
    refine ⟨pk_in k 171 hk, pk_in (171 * c + k) 1368 (by omega), ih _ (by rw [rI_n (by omega)]; exact a1) (fun j hj => ?_) (fun j hj => by rw [rI_n (by omega)]; exact a3 j hj) (fM_trans a4 fM_r)⟩
    by_cases z : j = k
    · subst z; exact rI_s
    · rw [rI_n (by omega)]; exact a2 j (by omega)
theorem d_keeps {s : Sg} {w : Nat} (hs : sOK s) (hm : MR s m) (K : ∀ m', MR (ks s w) m' → fM [6] [812] m m' → Q none (mk m')) : Ok g gr e mX10_keeps 0 0 [.ref 810] (mk m) Q := by
  have hP := hs.2.1
  have hm0 := hm
  obtain ⟨a1, ⟨a2, a3⟩, a4, a5, a6, a7, a8⟩ := hm
  -- to the end, from what is kept
  have fin : ∀ m1, fM [6] [812] m m1 → m1.1 810 6 = nI (min (y_P s).length 7) → (∀ i, i < min (y_P s).length 7 → ∀ x, x < 3 → pR m1 812 (171 * (min (y_P s).length 7 - 1 - i) + 57 * x) (unw (y_W s) (y_P s) (i + 1) x)) → WP g gr e mX10_keeps 0 0 52 [.ref 810, .int 0] [] (mk m1) Q := by
    intro m1 f1 h6 hB
    refine d_keepsEnd (B := fun i x => unw (y_W s) (y_P s) (i + 1) x) (by omega) h6 (fun x hx => pW_fM (a1 x hx) f1) hB (fun m2 b1 b2 b3 b4 => K m2 ?_ (fM_trans f1 b4))
    have f2 := fM_trans f1 b4
    have el : (List.take 8 ((w, y_W s w) :: y_P s)).length = min (y_P s).length 7 + 1 := by rw [List.length_take, List.length_cons]; omega
    refine ⟨fun x hx => pW_fM (a1 x hx) f2, ⟨by show _ = nI (List.take 8 _).length; rw [el]; exact b1, fun i hi x hx => ?_⟩, fun i hi => ⟨by rw [fM_1 f2]; exact (a4 i hi).1, fun hk x hx => pR_eq ((a4 i hi).2 hk x hx) (f2.1 813 (by decide) (by decide))⟩, ⟨by rw [fM_2 f2]; exact a5.1, rowL_cong a5.2 (f2.1 815 (by decide) (by decide))⟩, by rw [fM_2 f2]; exact a6, by rw [fM_2 f2]; exact a7, by rw [fM_2 f2]; exact a8⟩
    have hi : i < (List.take 8 ((w, y_W s w) :: y_P s)).length := hi
    show pR m2 812 (171 * ((List.take 8 ((w, y_W s w) :: y_P s)).length - 1 - i) + 57 * x) (unw (y_W s) (List.take 8 ((w, y_W s w) :: y_P s)) (i + 1) x)
    rw [el] at hi
    rw [el, unw_take _ _ _ _ (by omega), show unw (y_W s) ((w, y_W s w) :: y_P s) (i + 1) = unw (ugd (y_W s) w (y_W s w)) (y_P s) i from rfl, ugd_same]
    cases i with
    | zero =>
      rw [unw_0, show min (y_P s).length 7 + 1 - 1 - 0 = min (y_P s).length 7 by omega]
      exact b2 x hx
    | succ i =>
      have := b3 i (by omega) x hx
      rw [show min (y_P s).length 7 + 1 - 1 - (i + 1) = min (y_P s).length 7 - 1 - i by omega]
      exact this
  refine b_X10_keeps_0 (d := e) (pk_eq (y_P s).length 8 (fun z => ?_) (fun z => ?_) a2 |> fun h => ⟨h.2, h.1⟩)
  · -- the oldest goes
    refine up_to (n := 1197) (P := fun k => ∀ m', (∀ j, j < k → m'.1 812 j = m.1 812 (j + 171)) → (∀ j, k ≤ j → m'.1 812 j = m.1 812 j) → fM [6] [812] m m' → m'.1 810 6 = nI 8 → WP g gr e mX10_keeps 0 0 11 [.ref 810, .int (nI k)] [] (mk m') Q) ?_ ?_ 0 (Nat.zero_le _) m (fun j hj => absurd hj (Nat.not_lt_zero _)) (fun _ _ => rfl) (fM_refl _ _ _) (by rw [a2, z])
    · intro m' b1 b2 b3 b4
      refine b_X10_keeps_11 (d := e) (pk_le 1197 1197 (fun _ => ?_) (fun y => absurd y (Nat.lt_irrefl _)))
      rw [b4]
      have e7 : min (y_P s).length 7 = 7 := by omega
      refine fin _ (fM_trans b3 fM_f) (by rw [rI_s, e7]; rfl) (fun i hi x hx => ?_)
      rw [e7] at hi ⊢
      refine pR_copy (a3 i (by omega) x hx) fun k hk => ?_
      rw [rI_n (by omega), b1 _ (by omega), z]
      rw [show 171 * (7 - 1 - i) + 57 * x + k + 171 = 171 * (8 - 1 - i) + 57 * x + k by omega]
    · intro k hk ih m' b1 b2 b3 b4
      refine b_X10_keeps_11 (d := e) (pk_le 1197 k (fun y => by omega) (fun _ => ?_))
      rw [show (171 : Int32) = nI 171 from rfl, nI_add, nI_1, cw (show k + 171 < 2 ^ 31 by omega), cw (show k < 2 ^ 31 by omega), b2 (k + 171) (by omega)]
      refine ⟨pk_in (k + 171) 1368 (by omega), pk_in k 1368 (by omega), ih _ (fun j hj => ?_) (fun j hj => by rw [rI_n (by omega)]; exact b2 j (by omega)) (fM_trans b3 fM_r) (by rw [rI_n (by omega)]; exact b4)⟩
      by_cases y : j = k
      · subst y; exact rI_s
      · rw [rI_n (by omega)]; exact b1 j (by omega)
  · have e7 : min (y_P s).length 7 = (y_P s).length := by omega
    refine fin m (fM_refl _ _ _) (by rw [e7]; exact a2) (fun i hi x hx => ?_)
    rw [e7] at hi ⊢
    exact a3 i hi x hx
/-- a graph is changed that was kept -/
theorem MR_g {s : Sg} {m' : zm} {w : Nat} {G : Gr} (hm : MR (ks s w) m) (hp : pW m' w G) (ho : ∀ j, (j < 57 * w ∨ 57 * w + 57 ≤ j) → m'.1 811 j = m.1 811 j) (q2 : m'.1 812 = m.1 812) (q3 : m'.1 813 = m.1 813) (q4 : m'.1 814 = m.1 814) (q5 : m'.1 815 = m.1 815) (q6 : ∀ k, k = 1 ∨ k = 2 ∨ k = 3 ∨ k = 6 ∨ k = 10 → m'.1 810 k = m.1 810 k) : MR (gs (ks s w) w G) m' := by
  obtain ⟨a1, ⟨a2, a3⟩, a4, a5, a6, a7, a8⟩ := hm
  refine ⟨fun x hx => ?_, ⟨by rw [q6 6 (by omega)]; exact a2, fun i hi x hx => ?_⟩, fun i hi => ⟨by rw [q4]; exact (a4 i hi).1, fun hk x hx => pR_eq ((a4 i hi).2 hk x hx) q3⟩, ⟨by rw [q6 10 (by omega)]; exact a5.1, rowL_cong a5.2 q5⟩, by rw [q6 3 (by omega)]; exact a6, by rw [q6 2 (by omega)]; exact a7, by rw [q6 1 (by omega)]; exact a8⟩
  · show pW m' x (ugd (y_W s) w G x)
    by_cases z : x = w
    · subst z; rw [ugd_s]; exact hp
    · rw [ugd_n z]
      refine pR_copy (show pR m 811 (57 * x) (y_W s x) from a1 x hx) fun k hk => ho _ ?_
      rcases Nat.lt_or_ge x w with y | y
      · left; omega
      · right; omega
  · have hx3 := a3 i hi x hx
    have e1 : unw (y_W (gs (ks s w) w G)) (y_P (gs (ks s w) w G)) (i + 1) x = unw (y_W (ks s w)) (y_P (ks s w)) (i + 1) x := by
      show unw (ugd (y_W s) w G) (List.take 8 ((w, y_W s w) :: y_P s)) (i + 1) x = unw (y_W s) (List.take 8 ((w, y_W s w) :: y_P s)) (i + 1) x
      show unw (ugd (ugd (y_W s) w G) w (y_W s w)) (List.take 7 (y_P s)) i x = unw (ugd (y_W s) w (y_W s w)) (List.take 7 (y_P s)) i x
      rw [ugd_ugd]
    rw [e1]
    exact pR_eq hx3 q2
end ZPa
