/-! the past, on both sides -/
def ks (s : Sg) (g : Nat) : Sg := (y_W s, ((g, y_W s g) :: y_P s).take 8, y_I s, y_K s, y_T s, y_f s, y_w s, y_t s)
def gs (s : Sg) (g : Nat) (G : Gr) : Sg := (ugd (y_W s) g G, y_P s, y_I s, y_K s, y_T s, y_f s, y_w s, y_t s)
theorem i_ring : ∀ a, a < 8 → (nI a + (1 : Int32)) - (nI a + (1 : Int32)) / (8 : Int32) * (8 : Int32) = nI ((a + 1) % 8) := by decide +kernel
theorem i_gnir : ∀ a, a < 8 → ((nI a + (8 : Int32)) - (1 : Int32)) - ((nI a + (8 : Int32)) - (1 : Int32)) / (8 : Int32) * (8 : Int32) = nI ((a + 7) % 8) := by decide +kernel
theorem i_cnt : ∀ c, c ≤ 8 → fMin (nI c + (1 : Int32)) (8 : Int32) = nI (min 8 (c + 1)) := by decide +kernel
theorem ugd_same (W : Nat → Gr) (g : Nat) : ugd W g (W g) = W := funext fun i => by
  unfold ugd
  by_cases h : i = g
  · rw [if_pos h, h]
  · rw [if_neg h]
theorem ugd_ugd (W : Nat → Gr) (g : Nat) (G H : Gr) : ugd (ugd W g G) g H = ugd W g H := funext fun i => by
  unfold ugd
  by_cases h : i = g
  · rw [if_pos h, if_pos h]
  · rw [if_neg h, if_neg h, if_neg h]
theorem ugd_s (W : Nat → Gr) (g : Nat) (G : Gr) : ugd W g G g = G := if_pos rfl
theorem ugd_n {W : Nat → Gr} {g i : Nat} {G : Gr} (h : i ≠ g) : ugd W g G i = W i := if_neg h
theorem unw_take : ∀ (P : List (Nat × Gr)) (W : Nat → Gr) (n i : Nat), i ≤ n → unw W (P.take n) i = unw W P i := by
  intro P
  induction P with
  | nil => intro W n i _; rw [List.take_nil]
  | cons p P ih =>
    intro W n i hi
    cases i with
    | zero => cases n <;> rfl
    | succ i =>
      cases n with
      | zero => omega
      | succ n => exact ih _ n i (by omega)
theorem sOK_ks {s : Sg} (h : sOK s) {g : Nat} (hg : g < 3) : sOK (ks s g) := by
  obtain ⟨a1, a2, a3, a4, a5, a6⟩ := h
  refine ⟨a1, ?_, fun p hp => ?_, a4, a5, a6⟩
  · show (List.take 8 _).length ≤ 8
    rw [List.length_take]; omega
  · rcases List.mem_cons.mp (List.mem_of_mem_take hp) with z | z
    · rw [z]; exact ⟨hg, a1 g hg⟩
    · exact a3 p z
theorem sOK_gs {s : Sg} (h : sOK s) {g : Nat} {G : Gr} (hG : gWF G) : sOK (gs s g G) := by
  refine ⟨fun w hw => ?_, h.2⟩
  show gWF (ugd (y_W s) g G w)
  by_cases z : w = g
  · rw [z, ugd_s]; exact hG
  · rw [ugd_n z]; exact h.1 w hw
section ZPa
variable {g : zG} {gr : Bool} {e : Nat} {m : zm} {Q : Option Value → zH → Prop}
theorem c_keep {s : Sg} {w : Nat} (he : 3 ≤ e) (hs : sOK s) (hw : w < 3) (hc : CR s m) (K : ∀ m', CR (ks s w) m' → fC m m' → Q none (mk m')) : Ok g gr e mX4_keep 0 0 [.ref 22, .int (nI w), .ref (272 + 140 * w)] (mk m) Q := by
  obtain ⟨d, rfl⟩ := dn he
  obtain ⟨⟨a1, ⟨a2, a, a3, a4, a5⟩, a6, a7, a8, a9, a10, a11⟩, b1⟩ := hc
  have hP := hs.2.1
  refine b_X4_keep_0 (s272 hw) ?_
  rw [a4]
  refine ⟨pk_in a 8 a3, ?_⟩
  rw [cw (show a < 2 ^ 31 by omega)]
  intro m1 e1
  have f1 : fz 23 24 m m1 := by rw [e1]; exact fz_wI
  rw [fz_1 f1 (by omega), a4]
  refine ⟨pk_in a 8 a3, ?_⟩
  rw [cw (show a < 2 ^ 31 by omega)]
  refine k_take (e_24 a a3).2 (s272 hw) (by omega) (by omega) (pG_fz (a1 w hw) f1 (by omega)) (fun m2 c1 c2 => ?_)
  refine b_X4_keep_23 ?_
  have c22 : ∀ k, m2.1 22 k = m.1 22 k := fun k => by rw [fz_1 c2 (by omega), fz_1 f1 (by omega)]
  intro m3 e3
  rw [c22, a4, i_ring a a3] at e3
  have c3 : m3.1 22 0 = nI (y_P s).length := by rw [e3, rI_n (by omega), c22]; exact a2
  rw [c3, i_cnt _ hP]
  -- what has not changed
  have q : ∀ x k, x ≠ 22 → x ≠ 23 → ¬ (25 + 15 * a ≤ x ∧ x < 40 + 15 * a) → (wI m3 22 0 (nI (min 8 ((y_P s).length + 1)))).1 x k = m.1 x k := fun x k h1 h2 h3 => by
    rw [rI_n (fun y => h1 y.1), e3, rI_n (fun y => h1 y.1), fz_1 c2 (by omega), fz_1 f1 (by omega)]
  have qf : ∀ x, x ≠ 22 → x ≠ 23 → ¬ (25 + 15 * a ≤ x ∧ x < 40 + 15 * a) → (wI m3 22 0 (nI (min 8 ((y_P s).length + 1)))).1 x = m.1 x := fun x h1 h2 h3 => funext fun k => q x k h1 h2 h3
  have qL : ∀ x, ¬ (25 + 15 * a ≤ x ∧ x < 40 + 15 * a) → x ≠ 23 → (wI m3 22 0 (nI (min 8 ((y_P s).length + 1)))).2 x = m.2 x := fun x h1 h2 => by
    rw [wI_2, e3, wI_2, (c2 x (by omega)).2, (f1 x (by omega)).2]
  have g2 : pG (wI m3 22 0 (nI (min 8 ((y_P s).length + 1)))) (25 + 15 * a) (y_W s w) := pG_eq c1 fun x h1 h2 => funext fun k => by rw [rI_n (by omega), e3, rI_n (by omega)]
  refine K _ ⟨⟨fun x hx => pG_eq (a1 x hx) fun y h1 h2 => qf y (by omega) (by omega) (by omega), ⟨?_, (a + 1) % 8, Nat.mod_lt _ (by decide), ?_, fun i p hp => ?_⟩, fun i hi => ⟨by rw [q _ _ (by omega) (by omega) (by omega)]; exact (a6 i hi).1, fun hk x hx => pG_eq ((a6 i hi).2 hk x hx) fun y h1 h2 => qf y (by omega) (by omega) (by omega)⟩, ⟨by rw [q _ _ (by omega) (by omega) (by omega)]; exact a7.1, rowL_cong a7.2.1 (qf _ (by omega) (by omega) (by omega)), ?_⟩, by rw [q _ _ (by omega) (by omega) (by omega)]; exact a8, fun z => by rw [q _ _ (by omega) (by omega) (by omega)]; exact a9 z, a10, by rw [q _ _ (by omega) (by omega) (by omega)]; exact a11⟩, CS_eq b1 fun x hx => ⟨qf x (by omega) (by omega) (by omega), qL x (by omega) (by omega)⟩⟩ (fun x hx => ⟨qf x (by omega) (by omega) (by omega), qL x (by omega) (by omega)⟩)
  · show _ = nI (List.take 8 ((w, y_W s w) :: y_P s)).length
    rw [rI_s, List.length_take]; rfl
  · rw [rI_n (by omega), e3, rI_s]
  · have hp : (List.take 8 ((w, y_W s w) :: y_P s))[i]? = some p := hp
    have hi8 : i < 8 := by
      rcases Nat.lt_or_ge i 8 with z | z
      · exact z
      · rw [List.getElem?_eq_none (by rw [List.length_take]; omega)] at hp; cases hp
    rw [List.getElem?_take_of_lt hi8] at hp
    cases i with
    | zero =>
      have : p = (w, y_W s w) := (Option.some.inj hp).symm
      subst this
      have ea : ((a + 1) % 8 + 7 - 0) % 8 = a := by omega
      rw [ea]
      refine ⟨?_, g2⟩
      rw [rI_n (by omega), e3, rI_n (by omega), fz_1 c2 (by omega), e1, rI_s]
    | succ i =>
      have hp2 : (y_P s)[i]? = some p := hp
      obtain ⟨u1, u2⟩ := a5 i p hp2
      have ea : ((a + 1) % 8 + 7 - (i + 1)) % 8 = (a + 7 - i) % 8 := by omega
      have en : (a + 7 - i) % 8 ≠ a := by omega
      rw [ea]
      refine ⟨?_, pG_eq u2 fun y h1 h2 => qf y (by omega) (by omega) (by omega)⟩
      rw [rI_n (by omega), e3, rI_n (by omega), fz_1 c2 (by omega), e1, rI_n (fun y => en y.2)]
      exact u1
  · obtain ⟨R, r1, r2⟩ := a7.2.2
    exact ⟨R, r1, pG_eq r2 fun y h1 h2 => qf y (by omega) (by omega) (by omega)⟩
/-- a graph is changed -/
theorem CR_g {s : Sg} {m' : zm} {w : Nat} {G : Gr} (hw : w < 3) (hc : CR s m) (hp : pG m' (272 + 140 * w) G) (f : fz (272 + 140 * w) (287 + 140 * w) m m') : CR (gs s w G) m' := by
  obtain ⟨⟨a1, ⟨a2, a, a3, a4, a5⟩, a6, ⟨a7, a7b, R, r1, r2⟩, a8, a9, a10, a11⟩, b1⟩ := hc
  have hw3 : w = 0 ∨ w = 1 ∨ w = 2 := by omega
  refine ⟨⟨fun x hx => ?_, ⟨by rw [fz_1 f (by omega)]; exact a2, a, a3, by rw [fz_1 f (by omega)]; exact a4, fun i p hpi => ⟨by rw [fz_1 f (by omega)]; exact (a5 i p hpi).1, pG_fz (a5 i p hpi).2 f (by omega)⟩⟩, fun i hi => ⟨by rw [fz_1 f (by omega)]; exact (a6 i hi).1, fun hk x hx => pG_fz ((a6 i hi).2 hk x hx) f (by omega)⟩, ⟨by rw [fz_1 f (by omega)]; exact a7, rowL_cong a7b (f 21 (by omega)).1, R, r1, pG_fz r2 f (by omega)⟩, by rw [fz_1 f (by omega)]; exact a8, fun z => by rw [fz_1 f (by omega)]; exact a9 z, a10, by rw [fz_1 f (by omega)]; exact a11⟩, CS_eq b1 fun x hx => f x (by omega)⟩
  show pG m' (272 + 140 * x) (ugd (y_W s) w G x)
  by_cases z : x = w
  · subst z; rw [ugd_s]; exact hp
  · rw [ugd_n z]
    refine pG_fz (a1 x hx) f ?_
    have : x = 0 ∨ x = 1 ∨ x = 2 := by omega
    omega
end ZPa
