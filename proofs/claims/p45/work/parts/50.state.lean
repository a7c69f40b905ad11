/-! the state that the class keeps; questions and acts: what is common -/
theorem rowL_cong {f f' : Nat → Int32} {L : List Nat} (h : rowL f L) (e : f' = f) : rowL f' L := by rw [e]; exact h
abbrev Sg : Type := (Nat → Gr) × List (Nat × Gr) × (Nat → Nat → Gr) × (Nat → Bool) × List Nat × Int32 × Int32 × Int32
abbrev y_W (s : Sg) : Nat → Gr := s.1
abbrev y_P (s : Sg) : List (Nat × Gr) := s.2.1
abbrev y_I (s : Sg) : Nat → Nat → Gr := s.2.2.1
abbrev y_K (s : Sg) : Nat → Bool := s.2.2.2.1
abbrev y_T (s : Sg) : List Nat := s.2.2.2.2.1
abbrev y_f (s : Sg) : Int32 := s.2.2.2.2.2.1
abbrev y_w (s : Sg) : Int32 := s.2.2.2.2.2.2.1
abbrev y_t (s : Sg) : Int32 := s.2.2.2.2.2.2.2
def qs (s : Sg) (t : Int32) : Sg := (y_W s, y_P s, y_I s, y_K s, y_T s, y_f s, -1, t)
theorem qs_qs (s : Sg) (t u : Int32) : qs (qs s t) u = qs s u := rfl
def ugd (W : Nat → Gr) (g : Nat) (G : Gr) (i : Nat) : Gr := if i = g then G else W i
def sOK (s : Sg) : Prop := (∀ w, w < 3 → gWF (y_W s w)) ∧ (y_P s).length ≤ 8 ∧ (∀ p ∈ y_P s, p.1 < 3 ∧ gWF p.2) ∧ (∀ i, i < 2 → y_K s i = true → ∀ w, w < 3 → gWF (y_I s i w)) ∧ (y_T s).length ≤ 400 ∧ ∀ b ∈ y_T s, b < 256
theorem sOK_qs {s : Sg} (h : sOK s) (t : Int32) : sOK (qs s t) := h
def CC (s : Sg) (m : zm) : Prop := (∀ w, w < 3 → pG m (272 + 140 * w) (y_W s w)) ∧ (m.1 22 0 = nI (y_P s).length ∧ ∃ a, a < 8 ∧ m.1 22 1 = nI a ∧ ∀ i p, (y_P s)[i]? = some p → m.1 23 ((a + 7 - i) % 8) = nI p.1 ∧ pG m (25 + 15 * ((a + 7 - i) % 8)) p.2) ∧ (∀ i, i < 2 → m.1 146 i = (if y_K s i = true then 1 else 0) ∧ (y_K s i = true → ∀ w, w < 3 → pG m (692 + 15 * (i * 3 + w)) (y_I s i w))) ∧ (m.1 5 0 = nI (y_T s).length ∧ rowL (m.1 21) (y_T s) ∧ ∃ R, gOK R ∧ pG m 6 R) ∧ m.1 5 1 = y_f s ∧ (y_t s = 4 → m.1 5 2 = y_w s) ∧ (y_t s ≠ 4 → y_w s = -1) ∧ m.1 1 13 = y_t s
def CS (m : zm) : Prop := (∀ w, w < 3 → seen7 m (287 + 140 * w)) ∧ (∀ w, w < 3 → seen6 m (347 + 140 * w)) ∧ seen6 m 206
def CR (s : Sg) (m : zm) : Prop := CC s m ∧ CS m
def fC (m m' : zm) : Prop := ∀ a, 810 ≤ a → m'.1 a = m.1 a ∧ m'.2 a = m.2 a
def fQ (m m' : zm) : Prop := ∀ a, (a < 147 ∨ (272 ≤ a ∧ a < 692 ∧ (a - 272) % 140 < 15) ∨ (692 ≤ a ∧ a < 782) ∨ 810 ≤ a) → m'.1 a = m.1 a ∧ m'.2 a = m.2 a
theorem fC_refl (m : zm) : fC m m := fun _ _ => ⟨rfl, rfl⟩
theorem fC_trans {m m' m'' : zm} (h1 : fC m m') (h2 : fC m' m'') : fC m m'' := fun a h => ⟨(h2 a h).1.trans (h1 a h).1, (h2 a h).2.trans (h1 a h).2⟩
theorem fC_fz {lo hi : Nat} {m m' : zm} (h : fz lo hi m m') (h1 : hi ≤ 810) : fC m m' := fun a ha => h a (by omega)
theorem fQ_fz {lo hi : Nat} {m m' : zm} (h : fz lo hi m m') (h1 : (147 ≤ lo ∧ hi ≤ 272) ∨ (782 ≤ lo ∧ hi ≤ 810)) : fQ m m' := fun a ha => h a (by omega)
theorem fQ_fzw {w lo hi : Nat} {m m' : zm} (h : fz lo hi m m') (hw : w < 3) (h1 : 287 + 140 * w ≤ lo ∧ hi ≤ 412 + 140 * w) : fQ m m' := fun a ha => h a (by
  have : w = 0 ∨ w = 1 ∨ w = 2 := by omega
  rcases this with rfl | rfl | rfl <;> omega)
theorem pG_eq {o : Nat} {m m' : zm} {G : Gr} (h : pG m o G) (q : ∀ a, o ≤ a → a < o + 15 → m'.1 a = m.1 a) : pG m' o G := ⟨by rw [q _ (by omega) (by omega)]; exact h.1, fun v hv => by rw [q _ (by omega) (by omega)]; exact h.2.1 v hv, fun a b ha hb => by rw [q _ (by omega) (by omega)]; exact h.2.2.1 a b ha hb, fun k x hk hx => by rw [q _ (by omega) (by omega)]; exact h.2.2.2 k x hk hx⟩
theorem CC_fQ {s : Sg} {m m' : zm} (h : CC s m) (f : fQ m m') : CC s m' := by
  obtain ⟨a1, ⟨a2, a, a3, a4, a5⟩, a6, ⟨a7, a8, R, a9, a10⟩, a11, a12, a13, a14⟩ := h
  have q : ∀ a k, (a < 147 ∨ (692 ≤ a ∧ a < 782)) → m'.1 a k = m.1 a k := fun a k ha => congrFun (f a (by omega)).1 k
  refine ⟨fun w hw => pG_eq (a1 w hw) fun a h1 h2 => (f a ?_).1, ⟨by rw [q _ _ (by omega)]; exact a2, a, a3, by rw [q _ _ (by omega)]; exact a4, fun i p hp => ⟨by rw [q _ _ (by omega)]; exact (a5 i p hp).1, pG_eq (a5 i p hp).2 fun b h1 h2 => (f b (by omega)).1⟩⟩, fun i hi => ⟨by rw [q _ _ (by omega)]; exact (a6 i hi).1, fun hk w hw => pG_eq ((a6 i hi).2 hk w hw) fun b h1 h2 => (f b (by omega)).1⟩, ⟨by rw [q _ _ (by omega)]; exact a7, rowL_cong a8 (f 21 (by omega)).1, R, a9, pG_eq a10 fun b h1 h2 => (f b (by omega)).1⟩, by rw [q _ _ (by omega)]; exact a11, fun z => by rw [q _ _ (by omega)]; exact a12 z, a13, by rw [q _ _ (by omega)]; exact a14⟩
  have : w = 0 ∨ w = 1 ∨ w = 2 := by omega
  rcases this with rfl | rfl | rfl <;> omega
theorem seen6_eq {o : Nat} {m m' : zm} (h : seen6 m o) (q : ∀ a, o ≤ a → a < o + 65 → m'.1 a = m.1 a ∧ m'.2 a = m.2 a) : seen6 m' o := by
  have f : fz (o + 65) (o + 65) m m' ∨ True := Or.inr trivial
  rcases h with z | ⟨z, G, g1, g2, g3⟩
  · exact Or.inl (by rw [(q o (by omega) (by omega)).1]; exact z)
  · refine Or.inr ⟨by rw [(q o (by omega) (by omega)).1]; exact z, G, g1, pG_eq g2 fun a h1 h2 => (q a (by omega) (by omega)).1, ?_⟩
    have p : ∀ a k, o ≤ a → a < o + 65 → m'.1 a k = m.1 a k := fun a k h1 h2 => congrFun (q a h1 h2).1 k
    have pf : ∀ x l, o ≤ x → x + 4 ≤ o + 65 → pF m x (gn G) l → pF m' x (gn G) l := fun x l h1 h2 hp => ⟨by rw [p _ _ (by omega) (by omega)]; exact hp.1, by rw [p _ _ (by omega) (by omega)]; exact hp.2.1, fun i hi => by rw [p _ _ (by omega) (by omega)]; exact hp.2.2.1 i hi, fun i hi => by rw [p _ _ (by omega) (by omega)]; exact hp.2.2.2.1 i hi, fun i hi => by rw [p _ _ (by omega) (by omega)]; exact hp.2.2.2.2 i hi⟩
    obtain ⟨b1, b2, b3, b4, b5, b6, b7, b8⟩ := g3
    exact ⟨by rw [p _ _ (by omega) (by omega)]; exact b1, by rw [p _ _ (by omega) (by omega)]; exact b2, by rw [p _ _ (by omega) (by omega)]; exact b3, by rw [p _ _ (by omega) (by omega)]; exact b4, by rw [p _ _ (by omega) (by omega)]; exact b5, by rw [p _ _ (by omega) (by omega)]; exact b6, rowL_cong b7 (q _ (by omega) (by omega)).1, fun w => ⟨pf _ _ (by omega) (by omega) (b8 w).1, pf _ _ (by omega) (by omega) (b8 w).2⟩⟩
theorem seen7_eq {o : Nat} {m m' : zm} (h : seen7 m o) (q : ∀ a, o ≤ a → a < o + 60 → m'.1 a = m.1 a ∧ m'.2 a = m.2 a) : seen7 m' o := by
  rcases h with z | ⟨z, G, g1, g2, g3, g4⟩
  · exact Or.inl (by rw [(q o (by omega) (by omega)).1]; exact z)
  · have p : ∀ a k, o ≤ a → a < o + 60 → m'.1 a k = m.1 a k := fun a k h1 h2 => congrFun (q a h1 h2).1 k
    refine Or.inr ⟨by rw [(q o (by omega) (by omega)).1]; exact z, G, g1, pG_eq g2 fun a h1 h2 => (q a (by omega) (by omega)).1, ?_, by rw [p _ _ (by omega) (by omega)]; exact g4⟩
    have pf : ∀ x l, o ≤ x → x + 4 ≤ o + 60 → pF m x (gn G) l → pF m' x (gn G) l := fun x l h1 h2 hp => ⟨by rw [p _ _ (by omega) (by omega)]; exact hp.1, by rw [p _ _ (by omega) (by omega)]; exact hp.2.1, fun i hi => by rw [p _ _ (by omega) (by omega)]; exact hp.2.2.1 i hi, fun i hi => by rw [p _ _ (by omega) (by omega)]; exact hp.2.2.2.1 i hi, fun i hi => by rw [p _ _ (by omega) (by omega)]; exact hp.2.2.2.2 i hi⟩
    obtain ⟨b1, b2, b3, b4, b5⟩ := g3
    exact ⟨by rw [p _ _ (by omega) (by omega)]; exact b1, by rw [p _ _ (by omega) (by omega)]; exact b2, by rw [p _ _ (by omega) (by omega)]; exact b3, by rw [p _ _ (by omega) (by omega)]; exact b4, fun w => pf _ _ (by omega) (by omega) (b5 w)⟩
theorem CS_eq {m m' : zm} (h : CS m) (q : ∀ a, (206 ≤ a ∧ a < 271) ∨ (287 ≤ a ∧ a < 692 ∧ 15 ≤ (a - 272) % 140) → m'.1 a = m.1 a ∧ m'.2 a = m.2 a) : CS m' := by
  refine ⟨fun w hw => seen7_eq (h.1 w hw) fun a h1 h2 => q a ?_, fun w hw => seen6_eq (h.2.1 w hw) fun a h1 h2 => q a ?_, seen6_eq h.2.2 fun a h1 h2 => q a (by omega)⟩
  · have : w = 0 ∨ w = 1 ∨ w = 2 := by omega
    rcases this with rfl | rfl | rfl <;> omega
  · have : w = 0 ∨ w = 1 ∨ w = 2 := by omega
    rcases this with rfl | rfl | rfl <;> omega
theorem CS_fz {lo hi : Nat} {m m' : zm} (h : CS m) (f : fz lo hi m m') (h1 : hi ≤ 206 ∨ 692 ≤ lo ∨ (271 ≤ lo ∧ hi ≤ 287)) : CS m' := CS_eq h fun a ha => f a (by omega)
theorem CR_fz {s : Sg} {lo hi : Nat} {m m' : zm} (h : CR s m) (f : fz lo hi m m') (h1 : (147 ≤ lo ∧ hi ≤ 206) ∨ (782 ≤ lo ∧ hi ≤ 810)) : CR s m' := ⟨CC_fQ h.1 (fQ_fz f (by omega)), CS_fz h.2 f (by omega)⟩
theorem CC_t {s : Sg} {m : zm} {t : Int32} (h : CC s m) (ht : t ≠ 4) : CC (qs s t) (wI m 1 13 t) := by
  obtain ⟨a1, ⟨a2, a, a3, a4, a5⟩, a6, ⟨a7, a8, R, a9, a10⟩, a11, a12, a13, a14⟩ := h
  have f : ∀ b, b ≠ 1 → (wI m 1 13 t).1 b = m.1 b := fun b hb => funext fun k => rI_n (fun q => hb q.1)
  exact ⟨fun w hw => pG_eq (a1 w hw) fun b h1 h2 => f b (by omega), ⟨by rw [f _ (by decide)]; exact a2, a, a3, by rw [f _ (by decide)]; exact a4, fun i p hp => ⟨by rw [f _ (by decide)]; exact (a5 i p hp).1, pG_eq (a5 i p hp).2 fun b h1 h2 => f b (by omega)⟩⟩, fun i hi => ⟨by rw [f _ (by decide)]; exact (a6 i hi).1, fun hk w hw => pG_eq ((a6 i hi).2 hk w hw) fun b h1 h2 => f b (by omega)⟩, ⟨by rw [f _ (by decide)]; exact a7, rowL_cong a8 (f _ (by decide)), R, a9, pG_eq a10 fun b h1 h2 => f b (by omega)⟩, by rw [f _ (by decide)]; exact a11, fun z => absurd z ht, fun _ => rfl, rI_s⟩
theorem CR_t {s : Sg} {m : zm} {t : Int32} (h : CR s m) (ht : t ≠ 4 := by decide) : CR (qs s t) (wI m 1 13 t) := ⟨CC_t h.1 ht, CS_eq h.2 fun a ha => ⟨funext fun k => rI_n (fun q => by omega), rfl⟩⟩
theorem fC_t {m : zm} {t : Int32} : fC m (wI m 1 13 t) := fun a ha => ⟨funext fun k => rI_n (fun q => by omega), rfl⟩
def CX (s s' : Sg) (r : Int32) (M : zM) (args : List Value) : Prop := ∀ (g : zG) (gr : Bool) (e : Nat) (m : zm) (Q : Option Value → zH → Prop), 18 ≤ e → CR s m → (∀ m', CR s' m' → fC m m' → Q (some (.int r)) (mk m')) → Ok g gr e M 0 0 (.ref 1 :: args) (mk m) Q
theorem i_neg {l : Int32} (h : ¬ l < 0) : ∃ n, n < 2 ^ 31 ∧ l = nI n := by
  have h1 : (0 : Int32).toInt ≤ l.toInt := by
    have := Int32.not_lt.mp h
    exact Int32.le_iff_toInt_le.mp this
  have h2 := l.toInt_lt
  have h0 : (0 : Int32).toInt = 0 := by decide
  refine ⟨l.toInt.toNat, by omega, ?_⟩
  apply Int32.toInt_inj.mp
  rw [nI_toInt (by omega)]
  omega
theorem i_nn {k : Nat} (hk : k < 2 ^ 31) : ¬ nI k < 0 := nI_pos hk
theorem ite_y {P A C : Prop} (h : P) (c : C) : (P → C) ∧ (¬ P → A) := ⟨fun _ => c, fun z => absurd h z⟩
theorem ite_n {P A C : Prop} (h : ¬ P) (a : A) : (P → C) ∧ (¬ P → A) := ⟨fun z => absurd z h, fun _ => a⟩
theorem rg_y {N : Int32} {A B C : Prop} {k n : Nat} (hk : k < n) (c : C) (hN : N = nI n := by rfl) (hn : n < 2 ^ 31 := by decide) : (nI k < 0 → A) ∧ (¬ nI k < 0 → (N ≤ nI k → B) ∧ (¬ N ≤ nI k → C)) := by
  subst hN
  exact ⟨fun z => absurd z (i_nn (by omega)), fun _ => ⟨fun z => absurd z (nI_ge hk hn), fun _ => c⟩⟩
theorem rg_n {N l : Int32} {A C : Prop} {n : Nat} (h : l < 0 ∨ (¬ l < 0 ∧ nI n ≤ l)) (a : A) (hN : N = nI n := by rfl) : (l < 0 → A) ∧ (¬ l < 0 → (N ≤ l → A) ∧ (¬ N ≤ l → C)) := by
  subst hN
  exact ⟨fun _ => a, fun z => ⟨fun _ => a, fun y => by rcases h with h | h; exact absurd h z; exact absurd h.2 y⟩⟩
theorem rh_y {N : Int32} {A B C : Prop} {k n : Nat} (hk : k < n + 1) (c : C) (hN : N = nI n := by rfl) (hn : n < 2 ^ 31 := by decide) : (nI k < 0 → A) ∧ (¬ nI k < 0 → (nI k ≤ N → C) ∧ (¬ nI k ≤ N → B)) := by
  subst hN
  exact ⟨fun z => absurd z (i_nn (by omega)), fun _ => ⟨fun _ => c, fun z => absurd (nI_le (by omega) hn) z⟩⟩
theorem rl_y {N : Int32} {A B C : Prop} {k n : Nat} (hk : k < n) (c : C) (hN : N = nI n := by rfl) (hn : n < 2 ^ 31 := by omega) : (nI k < 0 → A) ∧ (¬ nI k < 0 → (nI k < N → C) ∧ (¬ nI k < N → B)) := by
  subst hN
  exact ⟨fun z => absurd z (i_nn (by omega)), fun _ => ⟨fun _ => c, fun z => absurd (nI_lt hk hn) z⟩⟩
theorem rl_n {N l : Int32} {A C : Prop} {n : Nat} (h : l < 0 ∨ (¬ l < 0 ∧ nI n ≤ l)) (a : A) (hN : N = nI n := by rfl) : (l < 0 → A) ∧ (¬ l < 0 → (l < N → C) ∧ (¬ l < N → A)) := by
  subst hN
  refine ⟨fun _ => a, fun z => ⟨fun y => ?_, fun _ => a⟩⟩
  rcases h with h | h
  · exact absurd h z
  · exact absurd y (Int32.not_lt.mpr h.2)
theorem has_y {m : zm} {o k n : Nat} (hk : k < n) (hp : m.1 o 0 = nI n) (hn : n < 2 ^ 31 := by omega) : tX1_has m o (nI k) := ⟨i_nn (by omega), by rw [hp]; exact nI_ge hk hn⟩
theorem cw {w : Nat} (hw : w < 2 ^ 31) : (nI w).toNatClampNeg = w := nI_clamp hw
theorem W_n {s : Sg} {m : zm} (h : CR s m) {w : Nat} (hw : w < 3) : m.1 (272 + 140 * w) 0 = nI (gn (y_W s w)) := (h.1.1 w hw).1
theorem s272 {w : Nat} (hw : w < 3) : sX1 (272 + 140 * w) := (e_2 w hw).2
theorem ct_beyond {p : Nat → Bool} {n : Nat} : ∀ t, (∀ i, n ≤ i → p i = false) → fb_ct p (n + t) = fb_ct p n := by
  intro t
  induction t with
  | zero => intro _; rfl
  | succ t ih =>
    intro h
    have e : fb_ct p (n + t + 1) = fb_ct p (n + t) + (if p (n + t) = true then 1 else 0) := fb_ct_succ _ _
    rw [show n + (t + 1) = n + t + 1 from rfl, e, ih h, h (n + t) (by omega)]; rfl
theorem lk_out {G : Gr} (hG : gWF G) (k v : Nat) {b : Nat} (h : gn G ≤ b) : lk k (gk G v b) = false := by
  rw [hG.1.2.2.1 v b, hG.2.2.2 b v h]
  unfold lk
  by_cases z : k = 0
  · rw [if_pos z]; rfl
  · rw [if_neg z]; exact bq_f (fun y => z y.symm)
theorem lk_n {G : Gr} (hG : gWF G) (k v : Nat) : fb_ct (fun b => lk k (gk G v b)) 7 = fb_ct (fun b => lk k (gk G v b)) (gn G) := by
  have h7 := hG.2.1.2
  have := ct_beyond (p := fun b => lk k (gk G v b)) (n := gn G) (7 - gn G) (fun i hi => lk_out hG k v hi)
  rw [show gn G + (7 - gn G) = 7 by omega] at this
  exact this
section ZQ_
variable {g : zG} {gr : Bool} {e : Nat} {m : zm} {Q : Option Value → zH → Prop}
theorem s347 {w : Nat} (hw : w < 3) : sX6 (347 + 140 * w) := (e_4 w hw).2
end ZQ_
section ZQ_
variable {g : zG} {gr : Bool} {e : Nat} {m : zm} {Q : Option Value → zH → Prop}
theorem s287 {w : Nat} (hw : w < 3) : sX7 (287 + 140 * w) := (e_3 w hw).2
end ZQ_
section ZQ_
variable {g : zG} {gr : Bool} {e : Nat} {m : zm} {Q : Option Value → zH → Prop}
theorem c_search {s : Sg} {w : Nat} (he : 14 ≤ e) (hs : sOK s) (hw : w < 3) (hc : CR s m) (K : ∀ m', CR s m' → fC m m' → pSS m' (347 + 140 * w) (gn (y_W s w)) (srch (y_W s w)) → Q (some (.ref (347 + 140 * w))) (mk m')) : Ok g gr e mX9_searchOf 0 0 [.ref 1, .int (nI w)] (mk m) Q := by
  obtain ⟨d, rfl⟩ := dn he
  refine b_X9_searchOf_0 ⟨pk_in w 3 hw, ?_⟩
  rw [cw (by omega)]
  refine k_look6 (s347 hw) (s272 hw) (by omega) (hs.1 w hw) (hc.1.1 w hw) (by omega) (hc.2.2.1 w hw) (fun m' a1 a2 a3 a4 => b_X9_searchOf_17 (s347 hw) (K m' ⟨CC_fQ hc.1 (fQ_fzw a4 hw (by omega)), ?_⟩ (fC_fz a4 (by omega)) a3))
  refine ⟨fun x hx => seen7_eq (hc.2.1 x hx) fun a h1 h2 => a4 a ?_, fun x hx => ?_, seen6_eq hc.2.2.2 fun a h1 h2 => a4 a (by omega)⟩
  · have : w = 0 ∨ w = 1 ∨ w = 2 := by omega
    have : x = 0 ∨ x = 1 ∨ x = 2 := by omega
    omega
  · by_cases z : x = w
    · subst z; exact Or.inr ⟨a1, _, hs.1 x hx, a2, a3⟩
    · refine seen6_eq (hc.2.2.1 x hx) fun a h1 h2 => a4 a ?_
      have : w = 0 ∨ w = 1 ∨ w = 2 := by omega
      have : x = 0 ∨ x = 1 ∨ x = 2 := by omega
      omega
end ZQ_
section ZQ_
variable {g : zG} {gr : Bool} {e : Nat} {m : zm} {Q : Option Value → zH → Prop}
theorem c_tree {s : Sg} {w : Nat} (he : 13 ≤ e) (hs : sOK s) (hw : w < 3) (hc : CR s m) (K : ∀ m', CR s m' → fC m m' → pTS m' (287 + 140 * w) (gn (y_W s w)) (tree (y_W s w)) → m'.1 (287 + 140 * w + 22) 0 = nI (ms0 (y_W s w) 0) → Q none (mk m')) : Ok g gr e mX8_look 0 0 [.ref (287 + 140 * w), .ref (272 + 140 * w)] (mk m) Q := by
  refine k_look7 (s287 hw) (s272 hw) he (hs.1 w hw) (hc.1.1 w hw) (by omega) (hc.2.1 w hw) (fun m' a1 a2 a3 a5 a4 => K m' ⟨CC_fQ hc.1 (fQ_fzw a4 hw (by omega)), ?_⟩ (fC_fz a4 (by omega)) a3 a5)
  refine ⟨fun x hx => ?_, fun x hx => seen6_eq (hc.2.2.1 x hx) fun a h1 h2 => a4 a ?_, seen6_eq hc.2.2.2 fun a h1 h2 => a4 a (by omega)⟩
  · by_cases z : x = w
    · subst z; exact Or.inr ⟨a1, _, hs.1 x hx, a2, a3, a5⟩
    · refine seen7_eq (hc.2.1 x hx) fun a h1 h2 => a4 a ?_
      have : w = 0 ∨ w = 1 ∨ w = 2 := by omega
      have : x = 0 ∨ x = 1 ∨ x = 2 := by omega
      omega
  · have : w = 0 ∨ w = 1 ∨ w = 2 := by omega
    have : x = 0 ∨ x = 1 ∨ x = 2 := by omega
    omega
end ZQ_
theorem all_y {m : zm} {o k n : Nat} (hk : k < 2 ^ n) (hn : n ≤ 7) (hp : m.1 o 0 = nI n) : tX1_hasAll m o (nI k) := by
  have h2 : 2 ^ n ≤ 2 ^ 7 := Nat.pow_le_pow_right (by decide) hn
  refine ⟨i_nn (by omega), ?_⟩
  rw [hp, i_sh1 (by omega)]
  exact nI_ge hk (by omega)
theorem all_n {m : zm} {o n : Nat} {l : Int32} (h : l < 0 ∨ (¬ l < 0 ∧ nI (2 ^ n) ≤ l)) (hn : n ≤ 7) (hp : m.1 o 0 = nI n) : ¬ tX1_hasAll m o l := by
  rintro ⟨a, b⟩
  rw [hp, i_sh1 (by omega)] at b
  rcases h with h | h
  · exact a h
  · exact b h.2
theorem p7 {n : Nat} (hn : n ≤ 7) : 2 ^ n ≤ 128 := Nat.pow_le_pow_right (n := 2) (by decide) hn
theorem c_searchF {g : zG} {gr : Bool} {e : Nat} {m : zm} {Q : Option Value → zH → Prop} {s : Sg} {w : Nat} (he : 14 ≤ e) (hs : sOK s) (hw : w < 3) (hc : CR s m) (K : ∀ m', CR s m' → fC m m' → pF m' (347 + 140 * w + 21) (gn (y_W s w)) (S_t (srch (y_W s w))) → fz (347 + 140 * w) (412 + 140 * w) m m' → Q (some (.ref (347 + 140 * w))) (mk m')) : Ok g gr e mX9_searchOf 0 0 [.ref 1, .int (nI w)] (mk m) Q := by
  obtain ⟨d, rfl⟩ := dn he
  refine b_X9_searchOf_0 ⟨pk_in w 3 hw, ?_⟩
  rw [cw (by omega)]
  refine k_look6 (s347 hw) (s272 hw) (by omega) (hs.1 w hw) (hc.1.1 w hw) (by omega) (hc.2.2.1 w hw) (fun m' a1 a2 a3 a4 => b_X9_searchOf_17 (s347 hw) (K m' ⟨CC_fQ hc.1 (fQ_fzw a4 hw (by omega)), ?_⟩ (fC_fz a4 (by omega)) (a3.2.2.2.2.2.2.2 (best_same (hs.1 w hw)).1).2 (by rw [show 412 + 140 * w = 347 + 140 * w + 65 by omega]; exact a4)))
  refine ⟨fun x hx => seen7_eq (hc.2.1 x hx) fun a h1 h2 => a4 a ?_, fun x hx => ?_, seen6_eq hc.2.2.2 fun a h1 h2 => a4 a (by omega)⟩
  · have : w = 0 ∨ w = 1 ∨ w = 2 := by omega
    have : x = 0 ∨ x = 1 ∨ x = 2 := by omega
    omega
  · by_cases z : x = w
    · subst z; exact Or.inr ⟨a1, _, hs.1 x hx, a2, a3⟩
    · refine seen6_eq (hc.2.2.1 x hx) fun a h1 h2 => a4 a ?_
      have : w = 0 ∨ w = 1 ∨ w = 2 := by omega
      have : x = 0 ∨ x = 1 ∨ x = 2 := by omega
      omega
def ks (s : Sg) (g : Nat) : Sg := (y_W s, ((g, y_W s g) :: y_P s).take 8, y_I s, y_K s, y_T s, y_f s, y_w s, y_t s)
def gs (s : Sg) (g : Nat) (G : Gr) : Sg := (ugd (y_W s) g G, y_P s, y_I s, y_K s, y_T s, y_f s, y_w s, y_t s)
theorem i_ring : ∀ a, a < 8 → (nI a + (1 : Int32)) - (nI a + (1 : Int32)) / (8 : Int32) * (8 : Int32) = nI ((a + 1) % 8) := by decide +kernel
theorem i_cnt : ∀ c, c ≤ 8 → fMin (nI c + (1 : Int32)) (8 : Int32) = nI (min 8 (c + 1)) := by decide +kernel
theorem ugd_s (W : Nat → Gr) (g : Nat) (G : Gr) : ugd W g G g = G := if_pos rfl
theorem ugd_n {W : Nat → Gr} {g i : Nat} {G : Gr} (h : i ≠ g) : ugd W g G i = W i := if_neg h
theorem sOK_ks {s : Sg} (h : sOK s) {g : Nat} (hg : g < 3) : sOK (ks s g) := by
  obtain ⟨a1, a2, a3, a4, a5, a6⟩ := h
  refine ⟨a1, ?_, fun p hp => ?_, a4, a5, a6⟩
  · show (List.take 8 _).length ≤ 8
    rw [List.length_take]; omega
  · rcases List.mem_cons.mp (List.mem_of_mem_take hp) with z | z
    · rw [z]; exact ⟨hg, a1 g hg⟩
    · exact a3 p z
theorem sOK_gs {s : Sg} (h : sOK s) {g : Nat} {G : Gr} (hG : gWF G) : sOK (gs s g G) := by
  refine ⟨fun w hw => ?_, h.2⟩
  show gWF (ugd (y_W s) g G w)
  by_cases z : w = g
  · rw [z, ugd_s]; exact hG
  · rw [ugd_n z]; exact h.1 w hw
section ZQ_
variable {g : zG} {gr : Bool} {e : Nat} {m : zm} {Q : Option Value → zH → Prop}
theorem c_keep {s : Sg} {w : Nat} (he : 3 ≤ e) (hs : sOK s) (hw : w < 3) (hc : CR s m) (K : ∀ m', CR (ks s w) m' → fC m m' → Q none (mk m')) : Ok g gr e mX4_keep 0 0 [.ref 22, .int (nI w), .ref (272 + 140 * w)] (mk m) Q := by
  obtain ⟨d, rfl⟩ := dn he
  obtain ⟨⟨a1, ⟨a2, a, a3, a4, a5⟩, a6, a7, a8, a9, a10, a11⟩, b1⟩ := hc
  have hP := hs.2.1
  refine b_X4_keep_0 (s272 hw) ?_
  rw [a4]
  refine ⟨pk_in a 8 a3, ?_⟩
  rw [cw (show a < 2 ^ 31 by omega)]
  intro m1 e1
  have f1 : fz 23 24 m m1 := by rw [e1]; exact fz_wI
  rw [fz_1 f1 (by omega), a4]
  refine ⟨pk_in a 8 a3, ?_⟩
  rw [cw (show a < 2 ^ 31 by omega)]
  refine k_take (e_24 a a3).2 (s272 hw) (by omega) (by omega) (pG_fz (a1 w hw) f1 (by omega)) (fun m2 c1 c2 => ?_)
  refine b_X4_keep_23 ?_
  have c22 : ∀ k, m2.1 22 k = m.1 22 k := fun k => by rw [fz_1 c2 (by omega), fz_1 f1 (by omega)]
  intro m3 e3
  rw [c22, a4, i_ring a a3] at e3
  have c3 : m3.1 22 0 = nI (y_P s).length := by rw [e3, rI_n (by omega), c22]; exact a2
  rw [c3, i_cnt _ hP]
  -- what has not changed
  have q : ∀ x k, x ≠ 22 → x ≠ 23 → ¬ (25 + 15 * a ≤ x ∧ x < 40 + 15 * a) → (wI m3 22 0 (nI (min 8 ((y_P s).length + 1)))).1 x k = m.1 x k := fun x k h1 h2 h3 => by
    rw [rI_n (fun y => h1 y.1), e3, rI_n (fun y => h1 y.1), fz_1 c2 (by omega), fz_1 f1 (by omega)]
  have qf : ∀ x, x ≠ 22 → x ≠ 23 → ¬ (25 + 15 * a ≤ x ∧ x < 40 + 15 * a) → (wI m3 22 0 (nI (min 8 ((y_P s).length + 1)))).1 x = m.1 x := fun x h1 h2 h3 => funext fun k => q x k h1 h2 h3
  have qL : ∀ x, ¬ (25 + 15 * a ≤ x ∧ x < 40 + 15 * a) → x ≠ 23 → (wI m3 22 0 (nI (min 8 ((y_P s).length + 1)))).2 x = m.2 x := fun x h1 h2 => by
    rw [wI_2, e3, wI_2, (c2 x (by omega)).2, (f1 x (by omega)).2]
  have g2 : pG (wI m3 22 0 (nI (min 8 ((y_P s).length + 1)))) (25 + 15 * a) (y_W s w) := pG_eq c1 fun x h1 h2 => funext fun k => by rw [rI_n (by omega), e3, rI_n (by omega)]
  refine K _ ⟨⟨fun x hx => pG_eq (a1 x hx) fun y h1 h2 => qf y (by omega) (by omega) (by omega), ⟨?_, (a + 1) % 8, Nat.mod_lt _ (by decide), ?_, fun i p hp => ?_⟩, fun i hi => ⟨by rw [q _ _ (by omega) (by omega) (by omega)]; exact (a6 i hi).1, fun hk x hx => pG_eq ((a6 i hi).2 hk x hx) fun y h1 h2 => qf y (by omega) (by omega) (by omega)⟩, ⟨by rw [q _ _ (by omega) (by omega) (by omega)]; exact a7.1, rowL_cong a7.2.1 (qf _ (by omega) (by omega) (by omega)), ?_⟩, by rw [q _ _ (by omega) (by omega) (by omega)]; exact a8, fun z => by rw [q _ _ (by omega) (by omega) (by omega)]; exact a9 z, a10, by rw [q _ _ (by omega) (by omega) (by omega)]; exact a11⟩, CS_eq b1 fun x hx => ⟨qf x (by omega) (by omega) (by omega), qL x (by omega) (by omega)⟩⟩ (fun x hx => ⟨qf x (by omega) (by omega) (by omega), qL x (by omega) (by omega)⟩)
  · show _ = nI (List.take 8 ((w, y_W s w) :: y_P s)).length
    rw [rI_s, List.length_take]; rfl
  · rw [rI_n (by omega), e3, rI_s]
  · have hp : (List.take 8 ((w, y_W s w) :: y_P s))[i]? = some p := hp
    have hi8 : i < 8 := by
      rcases Nat.lt_or_ge i 8 with z | z
      · exact z
      · rw [List.getElem?_eq_none (by rw [List.length_take]; omega)] at hp; cases hp
    rw [List.getElem?_take_of_lt hi8] at hp
    cases i with
    | zero =>
      have : p = (w, y_W s w) := (Option.some.inj hp).symm
      subst this
      have ea : ((a + 1) % 8 + 7 - 0) % 8 = a := by omega
      rw [ea]
      refine ⟨?_, g2⟩
      rw [rI_n (by omega), e3, rI_n (by omega), fz_1 c2 (by omega), e1, rI_s]
    | succ i =>
      have hp2 : (y_P s)[i]? = some p := hp
      obtain ⟨u1, u2⟩ := a5 i p hp2
      have ea : ((a + 1) % 8 + 7 - (i + 1)) % 8 = (a + 7 - i) % 8 := by omega
      have en : (a + 7 - i) % 8 ≠ a := by omega
      rw [ea]
      refine ⟨?_, pG_eq u2 fun y h1 h2 => qf y (by omega) (by omega) (by omega)⟩
      rw [rI_n (by omega), e3, rI_n (by omega), fz_1 c2 (by omega), e1, rI_n (fun y => en y.2)]
      exact u1
  · obtain ⟨R, r1, r2⟩ := a7.2.2
    exact ⟨R, r1, pG_eq r2 fun y h1 h2 => qf y (by omega) (by omega) (by omega)⟩
end ZQ_
section ZQ_
variable {g : zG} {gr : Bool} {e : Nat} {m : zm} {Q : Option Value → zH → Prop}
theorem CR_g {s : Sg} {m' : zm} {w : Nat} {G : Gr} (hw : w < 3) (hc : CR s m) (hp : pG m' (272 + 140 * w) G) (f : fz (272 + 140 * w) (287 + 140 * w) m m') : CR (gs s w G) m' := by
  obtain ⟨⟨a1, ⟨a2, a, a3, a4, a5⟩, a6, ⟨a7, a7b, R, r1, r2⟩, a8, a9, a10, a11⟩, b1⟩ := hc
  have hw3 : w = 0 ∨ w = 1 ∨ w = 2 := by omega
  refine ⟨⟨fun x hx => ?_, ⟨by rw [fz_1 f (by omega)]; exact a2, a, a3, by rw [fz_1 f (by omega)]; exact a4, fun i p hpi => ⟨by rw [fz_1 f (by omega)]; exact (a5 i p hpi).1, pG_fz (a5 i p hpi).2 f (by omega)⟩⟩, fun i hi => ⟨by rw [fz_1 f (by omega)]; exact (a6 i hi).1, fun hk x hx => pG_fz ((a6 i hi).2 hk x hx) f (by omega)⟩, ⟨by rw [fz_1 f (by omega)]; exact a7, rowL_cong a7b (f 21 (by omega)).1, R, r1, pG_fz r2 f (by omega)⟩, by rw [fz_1 f (by omega)]; exact a8, fun z => by rw [fz_1 f (by omega)]; exact a9 z, a10, by rw [fz_1 f (by omega)]; exact a11⟩, CS_eq b1 fun x hx => f x (by omega)⟩
  show pG m' (272 + 140 * x) (ugd (y_W s) w G x)
  by_cases z : x = w
  · subst z; rw [ugd_s]; exact hp
  · rw [ugd_n z]
    refine pG_fz (a1 x hx) f ?_
    have : x = 0 ∨ x = 1 ∨ x = 2 := by omega
    omega
end ZQ_
theorem sd_case (l : Int32) : l < 1 ∨ (¬ l < 1 ∧ l = 2147483647) ∨ ∃ k, 1 ≤ k ∧ k < 2147483647 ∧ l = nI k := by
  by_cases h : l < 1
  · exact Or.inl h
  · have h0 : ¬ l < 0 := fun z => h (Int32.lt_trans z (by decide))
    obtain ⟨n, hn, rfl⟩ := i_neg h0
    by_cases z : n < 2147483647
    · refine Or.inr (Or.inr ⟨n, ?_, z, rfl⟩)
      rcases Nat.eq_zero_or_pos n with q | q
      · subst q; exact absurd (by decide) h
      · exact q
    · have : n = 2147483647 := by omega
      subst this
      exact Or.inr (Or.inl ⟨h, rfl⟩)
theorem b_X9_symmetries_0 {g : zG} {gr : Bool} {d : Nat} {Q : Option Value → zH → Prop} {m : zm} {l1 : Int32} {l2 : Int32} (H : ((l1 < 0 → (Q (some (.int (-1 : Int32))) (mk (wI m 1 13 (1 : Int32))))) ∧ (¬ l1 < 0 → (((3 : Int32) ≤ l1 → (Q (some (.int (-1 : Int32))) (mk (wI m 1 13 (1 : Int32))))) ∧ (¬ (3 : Int32) ≤ l1 → (vp_in l1 3 ∧ (((l2 < 0 → (Q (some (.int (-1 : Int32))) (mk (wI m 1 13 (1 : Int32))))) ∧ (¬ l2 < 0 → ((l2 ≤ (2 : Int32) → (Ok g gr (d + 12) mX3_match 0 0 [.ref 157, .ref (272 + 140 * l1.toNatClampNeg), .ref (272 + 140 * l1.toNatClampNeg), .int (0 : Int32)] (mk m) (fun r h2 => WP g gr (d + 13) mX9_symmetries 0 0 35 [.ref 1, .retAddr 0, .int l2, .retAddr 0] (r.toList ++ []) h2 Q))) ∧ (¬ l2 ≤ (2 : Int32) → (Q (some (.int (-1 : Int32))) (mk (wI m 1 13 (1 : Int32))))))))))))))) : Ok g gr (d + 13) mX9_symmetries 0 0 [.ref 1, .int l1, .int l2] (mk m) Q :=
  Ok_of (ls := [.ref 1, .int l1, .int l2, .retAddr 0]) (by decide) rfl (Nat.le_of_ble_eq_true rfl) rfl (r_aload_n 0 dX9_symmetries_0 rfl rfl (r_iload_n 1 dX9_symmetries_1 rfl rfl (r_callV (C2 := 0) (S2 := 0) [.int l1] [] 1 dX9_symmetries_2 lk_X9_94 md_X9_at (ci := 8) rfl rfl (by decide) (zA a_1) rfl rfl (Nat.le_of_ble_eq_true rfl) rfl rfl (b_X9_at_0  ⟨fun q2555 => (r_astoreN_n 3 dX9_symmetries_5 rfl (Nat.le_of_ble_eq_true rfl) rfl (r_aloadN_n 3 dX9_symmetries_6 rfl rfl (r_ifnullN 19 dX9_symmetries_7 rfl (r_aload_n 0 dX9_symmetries_19 rfl rfl (r_iconst (1) dX9_symmetries_20 rfl (r_callV (C2 := 0) (S2 := 0) [.int (1 : Int32)] [] 1 dX9_symmetries_21 lk_X9_98 md_X9_refused (ci := 8) rfl rfl (by decide) (zA a_1) rfl rfl (Nat.le_of_ble_eq_true rfl) rfl rfl (b_X9_refused_0  (r_iret dX9_symmetries_24 rfl (H.1 q2555))))))))), fun q2556 => ⟨fun q2557 => (r_astoreN_n 3 dX9_symmetries_5 rfl (Nat.le_of_ble_eq_true rfl) rfl (r_aloadN_n 3 dX9_symmetries_6 rfl rfl (r_ifnullN 19 dX9_symmetries_7 rfl (r_aload_n 0 dX9_symmetries_19 rfl rfl (r_iconst (1) dX9_symmetries_20 rfl (r_callV (C2 := 0) (S2 := 0) [.int (1 : Int32)] [] 1 dX9_symmetries_21 lk_X9_98 md_X9_refused (ci := 8) rfl rfl (by decide) (zA a_1) rfl rfl (Nat.le_of_ble_eq_true rfl) rfl rfl (b_X9_refused_0  (r_iret dX9_symmetries_24 rfl ((H.2 q2556).1 q2557))))))))), fun q2558 => (have e2559 := ((H.2 q2556).2 q2558).1; ⟨e2559, (r_astore_n 3 dX9_symmetries_5 rfl (Nat.le_of_ble_eq_true rfl) rfl (r_aload_n 3 dX9_symmetries_6 rfl rfl (r_ifnullR dX9_symmetries_7 (r_iload_n 2 dX9_symmetries_10 rfl rfl (r_if_lt 19 dX9_symmetries_11 rfl (fun q2560 => (r_aload_n 0 dX9_symmetries_19 rfl rfl (r_iconst (1) dX9_symmetries_20 rfl (r_callV (C2 := 0) (S2 := 0) [.int (1 : Int32)] [] 1 dX9_symmetries_21 lk_X9_98 md_X9_refused (ci := 8) rfl rfl (by decide) (zA a_1) rfl rfl (Nat.le_of_ble_eq_true rfl) rfl rfl (b_X9_refused_0  (r_iret dX9_symmetries_24 rfl (((H.2 q2556).2 q2558).2.1 q2560))))))) (fun q2561 => (r_iload_n 2 dX9_symmetries_14 rfl rfl (r_iconst (2) dX9_symmetries_15 rfl (r_icmp_le 25 dX9_symmetries_16 rfl (fun q2562 => (r_aload_n 0 dX9_symmetries_25 rfl rfl (q_getR dX9_symmetries_26 fl_X9_61_X9 a_1 r_1_9 (r_aload_n 3 dX9_symmetries_29 rfl rfl (r_aload_n 3 dX9_symmetries_30 rfl rfl (r_iconst (0) dX9_symmetries_31 rfl (r_forget [true, false, true, false] rfl (r_callV (C2 := 0) (S2 := 0) [.ref (272 + 140 * l1.toNatClampNeg), .ref (272 + 140 * l1.toNatClampNeg), .int (0 : Int32)] [] 3 dX9_symmetries_32 lk_X9_245 md_X3_match (ci := 3) rfl rfl (by decide) (zA a_157) rfl rfl (Nat.le_of_ble_eq_true rfl) rfl rfl ((((H.2 q2556).2 q2558).2.2 q2561).1 q2562))))))))) (fun q2563 => (r_aload_n 0 dX9_symmetries_19 rfl rfl (r_iconst (1) dX9_symmetries_20 rfl (r_callV (C2 := 0) (S2 := 0) [.int (1 : Int32)] [] 1 dX9_symmetries_21 lk_X9_98 md_X9_refused (ci := 8) rfl rfl (by decide) (zA a_1) rfl rfl (Nat.le_of_ble_eq_true rfl) rfl rfl (b_X9_refused_0  (r_iret dX9_symmetries_24 rfl ((((H.2 q2556).2 q2558).2.2 q2561).2 q2563))))))))))))))))⟩)⟩⟩))))
theorem b_X9_symmetries_35 {g : zG} {gr : Bool} {d : Nat} {Q : Option Value → zH → Prop} {m : zm} {l2 : Int32} (H : ((l2 = 0 → (Q (some (.int (m.1 157 0))) (mk (wI m 1 13 (0 : Int32))))) ∧ (l2 = 1 → (Ok g gr (d + 12) mX3_orbits 0 0 [.ref 157] (mk m) (fun r h2 => WP g gr (d + 13) mX9_symmetries 0 0 84 [.retAddr 0, .retAddr 0, .retAddr 0, .retAddr 0] (r.toList ++ [.ref 1]) h2 Q))) ∧ (¬ l2 = 0 ∧ ¬ l2 = 1 → (Ok g gr (d + 12) mX3_unmoved 0 0 [.ref 157] (mk m) (fun r h2 => WP g gr (d + 13) mX9_symmetries 0 0 96 [.retAddr 0, .retAddr 0, .retAddr 0, .retAddr 0] (r.toList ++ [.ref 1]) h2 Q))))) : WP g gr (d + 13) mX9_symmetries 0 0 35 [.ref 1, .retAddr 0, .int l2, .retAddr 0] [] (mk m) Q :=
  (r_iload_n 2 dX9_symmetries_35 rfl rfl ((dite (l2 = 0) (fun q2564 => r_lookup 64 dX9_symmetries_36 (by decide) (by rw [q2564]) rfl (r_aload_n 0 dX9_symmetries_64 rfl rfl (r_aload_n 0 dX9_symmetries_65 rfl rfl (q_getR dX9_symmetries_66 fl_X9_61_X9 a_1 r_1_9 (q_getI dX9_symmetries_69 fl_X9_249_X3 (Or.inl rfl) a_157 (r_callV (C2 := 0) (S2 := 0) [.int (m.1 157 0)] [] 1 dX9_symmetries_72 lk_X9_122 md_X9_answered (ci := 8) rfl rfl (by decide) (zA a_1) rfl rfl (Nat.le_of_ble_eq_true rfl) rfl rfl (b_X9_answered_0  (r_iret dX9_symmetries_75 rfl (H.1 q2564))))))))) (fun n0_ => (dite (l2 = 1) (fun q2565 => r_lookup 76 dX9_symmetries_36 (by decide) (by rw [q2565]) rfl (r_aload_n 0 dX9_symmetries_76 rfl rfl (r_aload_n 0 dX9_symmetries_77 rfl rfl (q_getR dX9_symmetries_78 fl_X9_61_X9 a_1 r_1_9 (r_forget [false, true, false, true] rfl (r_callV (C2 := 0) (S2 := 0) [] [.ref 1] 0 dX9_symmetries_81 lk_X9_252 md_X3_orbits (ci := 3) rfl rfl (by decide) (zA a_157) rfl rfl (Nat.le_of_ble_eq_true rfl) rfl rfl (H.2.1 q2565))))))) (fun n1_ => (r_lookup 88 dX9_symmetries_36 (by decide) (by exact ((lv_osw n0_ rfl).trans ((lv_osw n1_ rfl).trans rfl))) rfl (r_aload_n 0 dX9_symmetries_88 rfl rfl (r_aload_n 0 dX9_symmetries_89 rfl rfl (q_getR dX9_symmetries_90 fl_X9_61_X9 a_1 r_1_9 (r_forget [false, true, false, true] rfl (r_callV (C2 := 0) (S2 := 0) [] [.ref 1] 0 dX9_symmetries_93 lk_X9_255 md_X3_unmoved (ci := 3) rfl rfl (by decide) (zA a_157) rfl rfl (Nat.le_of_ble_eq_true rfl) rfl rfl (H.2.2 ⟨n0_, n1_⟩)))))))))))))
theorem b_X9_symmetries_84 {g : zG} {gr : Bool} {d : Nat} {Q : Option Value → zH → Prop} {m : zm} {s0 : Int32} (H : Q (some (.int s0)) (mk (wI m 1 13 (0 : Int32)))) : WP g gr (d + 13) mX9_symmetries 0 0 84 [.retAddr 0, .retAddr 0, .retAddr 0, .retAddr 0] [.int s0, .ref 1] (mk m) Q :=
  (r_callV (C2 := 0) (S2 := 0) [.int s0] [] 1 dX9_symmetries_84 lk_X9_122 md_X9_answered (ci := 8) rfl rfl (by decide) (zA a_1) rfl rfl (Nat.le_of_ble_eq_true rfl) rfl rfl (b_X9_answered_0  (r_iret dX9_symmetries_87 rfl H)))
theorem b_X9_symmetries_96 {g : zG} {gr : Bool} {d : Nat} {Q : Option Value → zH → Prop} {m : zm} {s0 : Int32} (H : Q (some (.int s0)) (mk (wI m 1 13 (0 : Int32)))) : WP g gr (d + 13) mX9_symmetries 0 0 96 [.retAddr 0, .retAddr 0, .retAddr 0, .retAddr 0] [.int s0, .ref 1] (mk m) Q :=
  (r_callV (C2 := 0) (S2 := 0) [.int s0] [] 1 dX9_symmetries_96 lk_X9_122 md_X9_answered (ci := 8) rfl rfl (by decide) (zA a_1) rfl rfl (Nat.le_of_ble_eq_true rfl) rfl rfl (b_X9_answered_0  (r_iret dX9_symmetries_99 rfl H)))
def by1 (x : Int32) (s : Nat) : Nat := (fUshr x (nI s)).toBitVec.toNat % 2 ^ 8
theorem by1_lt (x : Int32) (s : Nat) : by1 x s < 256 := Nat.mod_lt _ (by decide)
theorem by1_c (x : Int32) (s : Nat) : fUshr x (nI s) &&& (255 : Int32) = nI (by1 x s) := pk_and _ 8 (by decide)
def by4 (L : List Nat) (x : Int32) : List Nat := L ++ [by1 x 24] ++ [by1 x 16] ++ [by1 x 8] ++ [by1 x 0]
theorem by4_len (L : List Nat) (x : Int32) : (by4 L x).length = L.length + 4 := by simp [by4]
theorem by4_lt {L : List Nat} {x : Int32} (h : ∀ b ∈ L, b < 256) : ∀ b ∈ by4 L x, b < 256 := fun b hb => by
  simp [by4] at hb
  rcases hb with hb | rfl | rfl | rfl | rfl
  · exact h b hb
  all_goals exact by1_lt _ _
def pT (m : zm) (L : List Nat) : Prop := m.1 5 0 = nI L.length ∧ rowL (m.1 21) L
def fTp (m m' : zm) : Prop := (∀ a, a ≠ 5 → a ≠ 21 → m'.1 a = m.1 a) ∧ (∀ k, k ≠ 0 → m'.1 5 k = m.1 5 k) ∧ m'.2 = m.2
theorem fTp_trans {m m' m'' : zm} (h1 : fTp m m') (h2 : fTp m' m'') : fTp m m'' := ⟨fun a x y => (h2.1 a x y).trans (h1.1 a x y), fun k x => (h2.2.1 k x).trans (h1.2.1 k x), h2.2.2.trans h1.2.2⟩
section ZQ_
variable {g : zG} {gr : Bool} {e : Nat} {Q : Option Value → zH → Prop} {m : zm}
theorem k_put1 {L : List Nat} {x : Int32} {s : Nat} (hs : s ≤ 24) (hL : L.length < 400) (h : pT m L) (K : ∀ m', pT m' (L ++ [by1 x s]) → fTp m m' → WP g gr (e + 0) mX5_put 0 0 3 [.ref 5, .int x, .int (nI s + (-8 : Int32))] [] (mk m') Q) : WP g gr (e + 0) mX5_put 0 0 3 [.ref 5, .int x, .int (nI s)] [] (mk m) Q := by
  refine b_X5_put_3 ⟨fun z => absurd z (i_nn (by omega)), fun _ => ?_⟩
  rw [h.1]
  refine pk_le 400 L.length (fun z => by omega) (fun _ => ⟨pk_in _ 400 hL, ?_⟩)
  rintro m1 rfl
  rw [cw (show L.length < 2 ^ 31 by omega), by1_c]
  refine K _ ⟨?_, ?_⟩ ⟨fun a h1 h2 => funext fun j => by rw [rI_n (fun q => h1 q.1), rI_n (fun q => h2 q.1)], fun k hk => by rw [rI_n (fun q => hk q.2), rI_n (fun q => by omega)], rfl⟩
  · rw [rI_s, rI_n (by omega), h.1, nI_1, List.length_append]; rfl
  · refine rowL_app h.2 ?_ (fun i hi => ?_)
    · rw [rI_n (by omega), rI_s]
    · rw [rI_n (by omega), rI_n (by omega)]
end ZQ_
section ZQ_
variable {g : zG} {gr : Bool} {e : Nat} {Q : Option Value → zH → Prop} {m : zm}
theorem k_put {L : List Nat} {x : Int32} (hL : L.length + 4 ≤ 400) (h : pT m L) (K : ∀ m', pT m' (by4 L x) → fTp m m' → Q none (mk m')) : Ok g gr e mX5_put 0 0 [.ref 5, .int x] (mk m) Q := by
  refine b_X5_put_0 (d := e) (k_put1 (s := 24) (by omega) (by omega) h (fun m1 a1 f1 => ?_))
  show WP _ _ _ _ _ _ _ [.ref 5, .int x, .int (nI 16)] _ _ _
  refine k_put1 (s := 16) (by omega) (by simp; omega) a1 (fun m2 a2 f2 => ?_)
  show WP _ _ _ _ _ _ _ [.ref 5, .int x, .int (nI 8)] _ _ _
  refine k_put1 (s := 8) (by omega) (by simp; omega) a2 (fun m3 a3 f3 => ?_)
  show WP _ _ _ _ _ _ _ [.ref 5, .int x, .int (nI 0)] _ _ _
  refine k_put1 (s := 0) (by omega) (by simp; omega) a3 (fun m4 a4 f4 => ?_)
  exact b_X5_put_3 ⟨fun _ => K m4 a4 (fTp_trans f1 (fTp_trans f2 (fTp_trans f3 f4))), fun z => absurd (by decide) z⟩
end ZQ_
def Ts (s : Sg) (T : List Nat) : Sg := (y_W s, y_P s, y_I s, y_K s, T, y_f s, y_w s, y_t s)
theorem CR_T {s : Sg} {m m' : zm} {T : List Nat} (h : CR s m) (hT : pT m' T) (f : fTp m m') : CR (Ts s T) m' := by
  obtain ⟨⟨a1, ⟨a2, a, a3, a4, a5⟩, a6, ⟨a7, a8, R, a9, a10⟩, a11, a12, a13, a14⟩, cs⟩ := h
  refine ⟨⟨fun w hw => pG_eq (a1 w hw) fun b h1 h2 => f.1 b (by omega) (by omega), ⟨by rw [f.1 22 (by decide) (by decide)]; exact a2, a, a3, by rw [f.1 22 (by decide) (by decide)]; exact a4, fun i p hp => ⟨by rw [f.1 23 (by decide) (by decide)]; exact (a5 i p hp).1, pG_eq (a5 i p hp).2 fun b h1 h2 => f.1 b (by omega) (by omega)⟩⟩, fun i hi => ⟨by rw [f.1 146 (by decide) (by decide)]; exact (a6 i hi).1, fun hk w hw => pG_eq ((a6 i hi).2 hk w hw) fun b h1 h2 => f.1 b (by omega) (by omega)⟩, ⟨hT.1, hT.2, R, a9, pG_eq a10 fun b h1 h2 => f.1 b (by omega) (by omega)⟩, by rw [f.2.1 1 (by decide)]; exact a11, fun z => by rw [f.2.1 2 (by decide)]; exact a12 z, a13, by rw [f.1 1 (by decide) (by decide)]; exact a14⟩, CS_eq cs fun b hb => ⟨f.1 b (by omega) (by omega), by rw [f.2.2]⟩⟩
theorem sOK_T {s : Sg} (h : sOK s) {T : List Nat} (h1 : T.length ≤ 400) (h2 : ∀ b ∈ T, b < 256) : sOK (Ts s T) := ⟨h.1, h.2.1, h.2.2.1, h.2.2.2.1, h1, h2⟩
theorem fC_T {m m' : zm} (f : fTp m m') : fC m m' := fun a ha => ⟨f.1 a (by omega) (by omega), by rw [f.2.2]⟩
def Rd (s : Sg) (F wv t : Int32) : Sg := (y_W s, y_P s, y_I s, y_K s, [], F, wv, t)
theorem sOK_Rd {s : Sg} (h : sOK s) (F wv t : Int32) : sOK (Rd s F wv t) := ⟨h.1, h.2.1, h.2.2.1, h.2.2.2.1, by show (0 : Nat) ≤ 400; decide, fun b hb => absurd hb (List.not_mem_nil)⟩
theorem CR_Rd {s : Sg} {m m' : zm} {F wv t : Int32} (h : CR s m) (f : ∀ a, a ≠ 1 → (a < 5 ∨ 21 ≤ a) → m'.1 a = m.1 a ∧ m'.2 a = m.2 a) (h0 : m'.1 5 0 = 0) (h1 : m'.1 5 1 = F) (hR : ∃ R, gOK R ∧ pG m' 6 R) (h4 : t = 4 → m'.1 5 2 = wv) (h5 : t ≠ 4 → wv = -1) (ht : m'.1 1 13 = t) : CR (Rd s F wv t) m' := by
  obtain ⟨⟨a1, ⟨a2, a, a3, a4, a5⟩, a6, ⟨a7, a8, R, a9, a10⟩, a11, a12, a13, a14⟩, cs⟩ := h
  have q : ∀ b k, b ≠ 1 → (b < 5 ∨ 21 ≤ b) → m'.1 b k = m.1 b k := fun b k x y => congrFun (f b x y).1 k
  exact ⟨⟨fun w hw => pG_eq (a1 w hw) fun b x1 x2 => (f b (by omega) (by omega)).1, ⟨by rw [q 22 _ (by decide) (by decide)]; exact a2, a, a3, by rw [q 22 _ (by decide) (by decide)]; exact a4, fun i p hp => ⟨by rw [q 23 _ (by decide) (by decide)]; exact (a5 i p hp).1, pG_eq (a5 i p hp).2 fun b x1 x2 => (f b (by omega) (by omega)).1⟩⟩, fun i hi => ⟨by rw [q 146 _ (by decide) (by decide)]; exact (a6 i hi).1, fun hk w hw => pG_eq ((a6 i hi).2 hk w hw) fun b x1 x2 => (f b (by omega) (by omega)).1⟩, ⟨h0, fun i hi => absurd hi (Nat.not_lt_zero _), hR⟩, h1, h4, h5, ht⟩, CS_eq cs fun b hb => f b (by omega) (by omega)⟩
theorem c_keep2 {g : zG} {gr : Bool} {e : Nat} {Q : Option Value → zH → Prop} {m : zm} {s : Sg} {w : Nat} (he : 3 ≤ e) (hs : sOK s) (hw : w < 3) (hc : CR s m) (K : ∀ m', CR (ks s w) m' → fC m m' → (∀ x, x < 22 → m'.1 x = m.1 x) → Q none (mk m')) : Ok g gr e mX4_keep 0 0 [.ref 22, .int (nI w), .ref (272 + 140 * w)] (mk m) Q := by
  obtain ⟨d, rfl⟩ := dn he
  obtain ⟨⟨a1, ⟨a2, a, a3, a4, a5⟩, a6, a7, a8, a9, a10, a11⟩, b1⟩ := hc
  have hP := hs.2.1
  refine b_X4_keep_0 (s272 hw) ?_
  rw [a4]
  refine ⟨pk_in a 8 a3, ?_⟩
  rw [cw (show a < 2 ^ 31 by omega)]
  intro m1 e1
  have f1 : fz 23 24 m m1 := by rw [e1]; exact fz_wI
  rw [fz_1 f1 (by omega), a4]
  refine ⟨pk_in a 8 a3, ?_⟩
  rw [cw (show a < 2 ^ 31 by omega)]
  refine k_take (e_24 a a3).2 (s272 hw) (by omega) (by omega) (pG_fz (a1 w hw) f1 (by omega)) (fun m2 c1 c2 => ?_)
  refine b_X4_keep_23 ?_
  have c22 : ∀ k, m2.1 22 k = m.1 22 k := fun k => by rw [fz_1 c2 (by omega), fz_1 f1 (by omega)]
  intro m3 e3
  rw [c22, a4, i_ring a a3] at e3
  have c3 : m3.1 22 0 = nI (y_P s).length := by rw [e3, rI_n (by omega), c22]; exact a2
  rw [c3, i_cnt _ hP]
  -- what has not changed
  have q : ∀ x k, x ≠ 22 → x ≠ 23 → ¬ (25 + 15 * a ≤ x ∧ x < 40 + 15 * a) → (wI m3 22 0 (nI (min 8 ((y_P s).length + 1)))).1 x k = m.1 x k := fun x k h1 h2 h3 => by
    rw [rI_n (fun y => h1 y.1), e3, rI_n (fun y => h1 y.1), fz_1 c2 (by omega), fz_1 f1 (by omega)]
  have qf : ∀ x, x ≠ 22 → x ≠ 23 → ¬ (25 + 15 * a ≤ x ∧ x < 40 + 15 * a) → (wI m3 22 0 (nI (min 8 ((y_P s).length + 1)))).1 x = m.1 x := fun x h1 h2 h3 => funext fun k => q x k h1 h2 h3
  have qL : ∀ x, ¬ (25 + 15 * a ≤ x ∧ x < 40 + 15 * a) → x ≠ 23 → (wI m3 22 0 (nI (min 8 ((y_P s).length + 1)))).2 x = m.2 x := fun x h1 h2 => by
    rw [wI_2, e3, wI_2, (c2 x (by omega)).2, (f1 x (by omega)).2]
  have g2 : pG (wI m3 22 0 (nI (min 8 ((y_P s).length + 1)))) (25 + 15 * a) (y_W s w) := pG_eq c1 fun x h1 h2 => funext fun k => by rw [rI_n (by omega), e3, rI_n (by omega)]
  refine K _ ⟨⟨fun x hx => pG_eq (a1 x hx) fun y h1 h2 => qf y (by omega) (by omega) (by omega), ⟨?_, (a + 1) % 8, Nat.mod_lt _ (by decide), ?_, fun i p hp => ?_⟩, fun i hi => ⟨by rw [q _ _ (by omega) (by omega) (by omega)]; exact (a6 i hi).1, fun hk x hx => pG_eq ((a6 i hi).2 hk x hx) fun y h1 h2 => qf y (by omega) (by omega) (by omega)⟩, ⟨by rw [q _ _ (by omega) (by omega) (by omega)]; exact a7.1, rowL_cong a7.2.1 (qf _ (by omega) (by omega) (by omega)), ?_⟩, by rw [q _ _ (by omega) (by omega) (by omega)]; exact a8, fun z => by rw [q _ _ (by omega) (by omega) (by omega)]; exact a9 z, a10, by rw [q _ _ (by omega) (by omega) (by omega)]; exact a11⟩, CS_eq b1 fun x hx => ⟨qf x (by omega) (by omega) (by omega), qL x (by omega) (by omega)⟩⟩ (fun x hx => ⟨qf x (by omega) (by omega) (by omega), qL x (by omega) (by omega)⟩) (fun x hx => qf x (by omega) (by omega) (by omega))
  · show _ = nI (List.take 8 ((w, y_W s w) :: y_P s)).length
    rw [rI_s, List.length_take]; rfl
  · rw [rI_n (by omega), e3, rI_s]
  · have hp : (List.take 8 ((w, y_W s w) :: y_P s))[i]? = some p := hp
    have hi8 : i < 8 := by
      rcases Nat.lt_or_ge i 8 with z | z
      · exact z
      · rw [List.getElem?_eq_none (by rw [List.length_take]; omega)] at hp; cases hp
    rw [List.getElem?_take_of_lt hi8] at hp
    cases i with
    | zero =>
      have : p = (w, y_W s w) := (Option.some.inj hp).symm
      subst this
      have ea : ((a + 1) % 8 + 7 - 0) % 8 = a := by omega
      rw [ea]
      refine ⟨?_, g2⟩
      rw [rI_n (by omega), e3, rI_n (by omega), fz_1 c2 (by omega), e1, rI_s]
    | succ i =>
      have hp2 : (y_P s)[i]? = some p := hp
      obtain ⟨u1, u2⟩ := a5 i p hp2
      have ea : ((a + 1) % 8 + 7 - (i + 1)) % 8 = (a + 7 - i) % 8 := by omega
      have en : (a + 7 - i) % 8 ≠ a := by omega
      rw [ea]
      refine ⟨?_, pG_eq u2 fun y h1 h2 => qf y (by omega) (by omega) (by omega)⟩
      rw [rI_n (by omega), e3, rI_n (by omega), fz_1 c2 (by omega), e1, rI_n (fun y => en y.2)]
      exact u1
  · obtain ⟨R, r1, r2⟩ := a7.2.2
    exact ⟨R, r1, pG_eq r2 fun y h1 h2 => qf y (by omega) (by omega) (by omega)⟩
