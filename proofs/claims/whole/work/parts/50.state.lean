/-! the state that both sides keep: graphs, past, images, tape, fault, where, trouble -/
abbrev Sg : Type := (Nat → Gr) × List (Nat × Gr) × (Nat → Nat → Gr) × (Nat → Bool) × List Nat × Int32 × Int32 × Int32
abbrev y_W (s : Sg) : Nat → Gr := s.1
abbrev y_P (s : Sg) : List (Nat × Gr) := s.2.1
abbrev y_I (s : Sg) : Nat → Nat → Gr := s.2.2.1
abbrev y_K (s : Sg) : Nat → Bool := s.2.2.2.1
abbrev y_T (s : Sg) : List Nat := s.2.2.2.2.1
abbrev y_f (s : Sg) : Int32 := s.2.2.2.2.2.1
abbrev y_w (s : Sg) : Int32 := s.2.2.2.2.2.2.1
abbrev y_t (s : Sg) : Int32 := s.2.2.2.2.2.2.2
/-- what a call leaves that changes nothing but the trouble -/
def qs (s : Sg) (t : Int32) : Sg := (y_W s, y_P s, y_I s, y_K s, y_T s, y_f s, -1, t)
theorem qs_qs (s : Sg) (t u : Int32) : qs (qs s t) u = qs s u := rfl
def ugd (W : Nat → Gr) (g : Nat) (G : Gr) (i : Nat) : Gr := if i = g then G else W i
def unw : (Nat → Gr) → List (Nat × Gr) → Nat → Nat → Gr
  | W, _, 0 => W
  | W, [], _ + 1 => W
  | W, p :: P, i + 1 => unw (ugd W p.1 p.2) P i
def sOK (s : Sg) : Prop := (∀ w, w < 3 → gWF (y_W s w)) ∧ (y_P s).length ≤ 8 ∧ (∀ p ∈ y_P s, p.1 < 3 ∧ gWF p.2) ∧ (∀ i, i < 2 → y_K s i = true → ∀ w, w < 3 → gWF (y_I s i w)) ∧ (y_T s).length ≤ 400 ∧ ∀ b ∈ y_T s, b < 256
theorem sOK_qs {s : Sg} (h : sOK s) (t : Int32) : sOK (qs s t) := h
/-- the class: what must last -/
def CC (s : Sg) (m : zm) : Prop := (∀ w, w < 3 → pG m (272 + 140 * w) (y_W s w)) ∧ (m.1 22 0 = nI (y_P s).length ∧ ∃ a, a < 8 ∧ m.1 22 1 = nI a ∧ ∀ i p, (y_P s)[i]? = some p → m.1 23 ((a + 7 - i) % 8) = nI p.1 ∧ pG m (25 + 15 * ((a + 7 - i) % 8)) p.2) ∧ (∀ i, i < 2 → m.1 146 i = (if y_K s i = true then 1 else 0) ∧ (y_K s i = true → ∀ w, w < 3 → pG m (692 + 15 * (i * 3 + w)) (y_I s i w))) ∧ (m.1 5 0 = nI (y_T s).length ∧ rowL (m.1 21) (y_T s) ∧ ∃ R, gOK R ∧ pG m 6 R) ∧ m.1 5 1 = y_f s ∧ (y_t s = 4 → m.1 5 2 = y_w s) ∧ (y_t s ≠ 4 → y_w s = -1) ∧ m.1 1 13 = y_t s
def CS (m : zm) : Prop := (∀ w, w < 3 → seen7 m (287 + 140 * w)) ∧ (∀ w, w < 3 → seen6 m (347 + 140 * w)) ∧ seen6 m 206
def CR (s : Sg) (m : zm) : Prop := CC s m ∧ CS m
def fC (m m' : zm) : Prop := ∀ a, 810 ≤ a → m'.1 a = m.1 a ∧ m'.2 a = m.2 a
/-- rows that no question changes -/
def fQ (m m' : zm) : Prop := ∀ a, (a < 147 ∨ (272 ≤ a ∧ a < 692 ∧ (a - 272) % 140 < 15) ∨ (692 ≤ a ∧ a < 782) ∨ 810 ≤ a) → m'.1 a = m.1 a ∧ m'.2 a = m.2 a
theorem fC_refl (m : zm) : fC m m := fun _ _ => ⟨rfl, rfl⟩
theorem fC_trans {m m' m'' : zm} (h1 : fC m m') (h2 : fC m' m'') : fC m m'' := fun a h => ⟨(h2 a h).1.trans (h1 a h).1, (h2 a h).2.trans (h1 a h).2⟩
theorem fC_fz {lo hi : Nat} {m m' : zm} (h : fz lo hi m m') (h1 : hi ≤ 810) : fC m m' := fun a ha => h a (by omega)
theorem fQ_fC {m m' : zm} (h : fQ m m') : fC m m' := fun a ha => h a (by omega)
theorem fQ_refl (m : zm) : fQ m m := fun _ _ => ⟨rfl, rfl⟩
theorem fQ_trans {m m' m'' : zm} (h1 : fQ m m') (h2 : fQ m' m'') : fQ m m'' := fun a h => ⟨(h2 a h).1.trans (h1 a h).1, (h2 a h).2.trans (h1 a h).2⟩
theorem fQ_fz {lo hi : Nat} {m m' : zm} (h : fz lo hi m m') (h1 : (147 ≤ lo ∧ hi ≤ 272) ∨ (782 ≤ lo ∧ hi ≤ 810)) : fQ m m' := fun a ha => h a (by omega)
theorem fQ_fzw {w lo hi : Nat} {m m' : zm} (h : fz lo hi m m') (hw : w < 3) (h1 : 287 + 140 * w ≤ lo ∧ hi ≤ 412 + 140 * w) : fQ m m' := fun a ha => h a (by
  have : w = 0 ∨ w = 1 ∨ w = 2 := by omega
  rcases this with rfl | rfl | rfl <;> omega)
theorem pG_eq {o : Nat} {m m' : zm} {G : Gr} (h : pG m o G) (q : ∀ a, o ≤ a → a < o + 15 → m'.1 a = m.1 a) : pG m' o G := ⟨by rw [q _ (by omega) (by omega)]; exact h.1, fun v hv => by rw [q _ (by omega) (by omega)]; exact h.2.1 v hv, fun a b ha hb => by rw [q _ (by omega) (by omega)]; exact h.2.2.1 a b ha hb, fun k x hk hx => by rw [q _ (by omega) (by omega)]; exact h.2.2.2 k x hk hx⟩
theorem CC_fQ {s : Sg} {m m' : zm} (h : CC s m) (f : fQ m m') : CC s m' := by
  obtain ⟨a1, ⟨a2, a, a3, a4, a5⟩, a6, ⟨a7, a8, R, a9, a10⟩, a11, a12, a13, a14⟩ := h
  have q : ∀ a k, (a < 147 ∨ (692 ≤ a ∧ a < 782)) → m'.1 a k = m.1 a k := fun a k ha => congrFun (f a (by omega)).1 k
  refine ⟨fun w hw => pG_eq (a1 w hw) fun a h1 h2 => (f a ?_).1, ⟨by rw [q _ _ (by omega)]; exact a2, a, a3, by rw [q _ _ (by omega)]; exact a4, fun i p hp => ⟨by rw [q _ _ (by omega)]; exact (a5 i p hp).1, pG_eq (a5 i p hp).2 fun b h1 h2 => (f b (by omega)).1⟩⟩, fun i hi => ⟨by rw [q _ _ (by omega)]; exact (a6 i hi).1, fun hk w hw => pG_eq ((a6 i hi).2 hk w hw) fun b h1 h2 => (f b (by omega)).1⟩, ⟨by rw [q _ _ (by omega)]; exact a7, rowL_cong a8 (f 21 (by omega)).1, R, a9, pG_eq a10 fun b h1 h2 => (f b (by omega)).1⟩, by rw [q _ _ (by omega)]; exact a11, fun z => by rw [q _ _ (by omega)]; exact a12 z, a13, by rw [q _ _ (by omega)]; exact a14⟩
  have : w = 0 ∨ w = 1 ∨ w = 2 := by omega
  rcases this with rfl | rfl | rfl <;> omega
theorem seen6_eq {o : Nat} {m m' : zm} (h : seen6 m o) (q : ∀ a, o ≤ a → a < o + 65 → m'.1 a = m.1 a ∧ m'.2 a = m.2 a) : seen6 m' o := by
  have f : fz (o + 65) (o + 65) m m' ∨ True := Or.inr trivial
  rcases h with z | ⟨z, G, g1, g2, g3⟩
  · exact Or.inl (by rw [(q o (by omega) (by omega)).1]; exact z)
  · refine Or.inr ⟨by rw [(q o (by omega) (by omega)).1]; exact z, G, g1, pG_eq g2 fun a h1 h2 => (q a (by omega) (by omega)).1, ?_⟩
    have p : ∀ a k, o ≤ a → a < o + 65 → m'.1 a k = m.1 a k := fun a k h1 h2 => congrFun (q a h1 h2).1 k
    have pf : ∀ x l, o ≤ x → x + 4 ≤ o + 65 → pF m x (gn G) l → pF m' x (gn G) l := fun x l h1 h2 hp => ⟨by rw [p _ _ (by omega) (by omega)]; exact hp.1, by rw [p _ _ (by omega) (by omega)]; exact hp.2.1, fun i hi => by rw [p _ _ (by omega) (by omega)]; exact hp.2.2.1 i hi, fun i hi => by rw [p _ _ (by omega) (by omega)]; exact hp.2.2.2.1 i hi, fun i hi => by rw [p _ _ (by omega) (by omega)]; exact hp.2.2.2.2 i hi⟩
    obtain ⟨b1, b2, b3, b4, b5, b6, b7, b8⟩ := g3
    exact ⟨by rw [p _ _ (by omega) (by omega)]; exact b1, by rw [p _ _ (by omega) (by omega)]; exact b2, by rw [p _ _ (by omega) (by omega)]; exact b3, by rw [p _ _ (by omega) (by omega)]; exact b4, by rw [p _ _ (by omega) (by omega)]; exact b5, by rw [p _ _ (by omega) (by omega)]; exact b6, rowL_cong b7 (q _ (by omega) (by omega)).1, fun w => ⟨pf _ _ (by omega) (by omega) (b8 w).1, pf _ _ (by omega) (by omega) (b8 w).2⟩⟩
theorem seen7_eq {o : Nat} {m m' : zm} (h : seen7 m o) (q : ∀ a, o ≤ a → a < o + 60 → m'.1 a = m.1 a ∧ m'.2 a = m.2 a) : seen7 m' o := by
  rcases h with z | ⟨z, G, g1, g2, g3, g4⟩
  · exact Or.inl (by rw [(q o (by omega) (by omega)).1]; exact z)
  · have p : ∀ a k, o ≤ a → a < o + 60 → m'.1 a k = m.1 a k := fun a k h1 h2 => congrFun (q a h1 h2).1 k
    refine Or.inr ⟨by rw [(q o (by omega) (by omega)).1]; exact z, G, g1, pG_eq g2 fun a h1 h2 => (q a (by omega) (by omega)).1, ?_, by rw [p _ _ (by omega) (by omega)]; exact g4⟩
    have pf : ∀ x l, o ≤ x → x + 4 ≤ o + 60 → pF m x (gn G) l → pF m' x (gn G) l := fun x l h1 h2 hp => ⟨by rw [p _ _ (by omega) (by omega)]; exact hp.1, by rw [p _ _ (by omega) (by omega)]; exact hp.2.1, fun i hi => by rw [p _ _ (by omega) (by omega)]; exact hp.2.2.1 i hi, fun i hi => by rw [p _ _ (by omega) (by omega)]; exact hp.2.2.2.1 i hi, fun i hi => by rw [p _ _ (by omega) (by omega)]; exact hp.2.2.2.2 i hi⟩
    obtain ⟨b1, b2, b3, b4, b5⟩ := g3
    exact ⟨by rw [p _ _ (by omega) (by omega)]; exact b1, by rw [p _ _ (by omega) (by omega)]; exact b2, by rw [p _ _ (by omega) (by omega)]; exact b3, by rw [p _ _ (by omega) (by omega)]; exact b4, fun w => pf _ _ (by omega) (by omega) (b5 w)⟩
/-- nothing happens to what was seen -/
theorem CS_eq {m m' : zm} (h : CS m) (q : ∀ a, (206 ≤ a ∧ a < 271) ∨ (287 ≤ a ∧ a < 692 ∧ 15 ≤ (a - 272) % 140) → m'.1 a = m.1 a ∧ m'.2 a = m.2 a) : CS m' := by
  refine ⟨fun w hw => seen7_eq (h.1 w hw) fun a h1 h2 => q a ?_, fun w hw => seen6_eq (h.2.1 w hw) fun a h1 h2 => q a ?_, seen6_eq h.2.2 fun a h1 h2 => q a (by omega)⟩
  · have : w = 0 ∨ w = 1 ∨ w = 2 := by omega
    rcases this with rfl | rfl | rfl <;> omega
  · have : w = 0 ∨ w = 1 ∨ w = 2 := by omega
    rcases this with rfl | rfl | rfl <;> omega
theorem CS_fz {lo hi : Nat} {m m' : zm} (h : CS m) (f : fz lo hi m m') (h1 : hi ≤ 206 ∨ 692 ≤ lo ∨ (271 ≤ lo ∧ hi ≤ 287)) : CS m' := CS_eq h fun a ha => f a (by omega)
theorem CR_fz {s : Sg} {lo hi : Nat} {m m' : zm} (h : CR s m) (f : fz lo hi m m') (h1 : (147 ≤ lo ∧ hi ≤ 206) ∨ (782 ≤ lo ∧ hi ≤ 810)) : CR s m' := ⟨CC_fQ h.1 (fQ_fz f (by omega)), CS_fz h.2 f (by omega)⟩
theorem CC_t {s : Sg} {m : zm} {t : Int32} (h : CC s m) (ht : t ≠ 4) : CC (qs s t) (wI m 1 13 t) := by
  obtain ⟨a1, ⟨a2, a, a3, a4, a5⟩, a6, ⟨a7, a8, R, a9, a10⟩, a11, a12, a13, a14⟩ := h
  have f : ∀ b, b ≠ 1 → (wI m 1 13 t).1 b = m.1 b := fun b hb => funext fun k => rI_n (fun q => hb q.1)
  exact ⟨fun w hw => pG_eq (a1 w hw) fun b h1 h2 => f b (by omega), ⟨by rw [f _ (by decide)]; exact a2, a, a3, by rw [f _ (by decide)]; exact a4, fun i p hp => ⟨by rw [f _ (by decide)]; exact (a5 i p hp).1, pG_eq (a5 i p hp).2 fun b h1 h2 => f b (by omega)⟩⟩, fun i hi => ⟨by rw [f _ (by decide)]; exact (a6 i hi).1, fun hk w hw => pG_eq ((a6 i hi).2 hk w hw) fun b h1 h2 => f b (by omega)⟩, ⟨by rw [f _ (by decide)]; exact a7, rowL_cong a8 (f _ (by decide)), R, a9, pG_eq a10 fun b h1 h2 => f b (by omega)⟩, by rw [f _ (by decide)]; exact a11, fun z => absurd z ht, fun _ => rfl, rI_s⟩
theorem CR_t {s : Sg} {m : zm} {t : Int32} (h : CR s m) (ht : t ≠ 4 := by decide) : CR (qs s t) (wI m 1 13 t) := ⟨CC_t h.1 ht, CS_eq h.2 fun a ha => ⟨funext fun k => rI_n (fun q => by omega), rfl⟩⟩
theorem fC_t {m : zm} {t : Int32} : fC m (wI m 1 13 t) := fun a ha => ⟨funext fun k => rI_n (fun q => by omega), rfl⟩
/-- the model -/
def pR (m : zm) (r o : Nat) (G : Gr) : Prop := m.1 r o = nI (gn G) ∧ (∀ v, v < 7 → m.1 r (o + 1 + v) = nI (gc G v)) ∧ ∀ a b, a < 7 → b < 7 → m.1 r (o + 8 + 7 * a + b) = nI (gk G a b)
def MR (s : Sg) (m : zm) : Prop := (∀ w, w < 3 → pW m w (y_W s w)) ∧ (m.1 810 6 = nI (y_P s).length ∧ ∀ i, i < (y_P s).length → ∀ w, w < 3 → pR m 812 (171 * ((y_P s).length - 1 - i) + 57 * w) (unw (y_W s) (y_P s) (i + 1) w)) ∧ (∀ i, i < 2 → m.1 814 i = (if y_K s i = true then 1 else 0) ∧ (y_K s i = true → ∀ w, w < 3 → pR m 813 (171 * i + 57 * w) (y_I s i w))) ∧ (m.1 810 10 = nI (y_T s).length ∧ rowL (m.1 815) (y_T s)) ∧ m.1 810 3 = y_f s ∧ m.1 810 2 = y_w s ∧ m.1 810 1 = y_t s
def fX (m m' : zm) : Prop := ∀ a, a < 810 ∨ 841 ≤ a → m'.1 a = m.1 a ∧ m'.2 a = m.2 a
theorem fX_refl (m : zm) : fX m m := fun _ _ => ⟨rfl, rfl⟩
theorem fX_trans {m m' m'' : zm} (h1 : fX m m') (h2 : fX m' m'') : fX m m'' := fun a h => ⟨(h2 a h).1.trans (h1 a h).1, (h2 a h).2.trans (h1 a h).2⟩
theorem fX_fM {F A : List Nat} {m m' : zm} (f : fM F A m m') (h : ∀ a ∈ A, 810 ≤ a ∧ a < 841 := by decide) : fX m m' := fun a ha => ⟨f.1 a (by omega) fun z => by have := h a z; omega, by rw [f.2.2]⟩
theorem fX_w {m : zm} {k : Nat} {v : Int32} : fX m (wI m 810 k v) := fun a ha => ⟨funext fun j => rI_n (fun q => by omega), rfl⟩
theorem fX_r {m : zm} {a k : Nat} {v : Int32} (h : 810 ≤ a ∧ a < 841 := by decide) : fX m (wI m a k v) := fun b hb => ⟨funext fun j => rI_n (fun q => by omega), rfl⟩
theorem fX_b {m : zm} : fX m (wBegins m) := fX_trans fX_w (fX_trans fX_w fX_w)
theorem pR_eq {m m' : zm} {r o : Nat} {G : Gr} (h : pR m r o G) (q : m'.1 r = m.1 r) : pR m' r o G := ⟨by rw [q]; exact h.1, fun v hv => by rw [q]; exact h.2.1 v hv, fun a b ha hb => by rw [q]; exact h.2.2 a b ha hb⟩
theorem pW_R {m : zm} {w : Nat} {G : Gr} : pW m w G ↔ pR m 811 (57 * w) G := Iff.rfl
theorem MR_rows {s s' : Sg} {m m' : zm} (h : MR s m) (q1 : m'.1 811 = m.1 811) (q2 : m'.1 812 = m.1 812) (q3 : m'.1 813 = m.1 813) (q4 : m'.1 814 = m.1 814) (q5 : m'.1 815 = m.1 815) (q6 : m'.1 810 6 = m.1 810 6) (q7 : m'.1 810 10 = m.1 810 10) (e : (y_W s, y_P s, y_I s, y_K s, y_T s) = (y_W s', y_P s', y_I s', y_K s', y_T s')) (p1 : m'.1 810 3 = y_f s') (p2 : m'.1 810 2 = y_w s') (p3 : m'.1 810 1 = y_t s') : MR s' m' := by
  obtain ⟨a1, ⟨a2, a3⟩, a4, ⟨a5, a6⟩, -, -, -⟩ := h
  obtain ⟨e1, e2, e3, e4, e5⟩ : y_W s = y_W s' ∧ y_P s = y_P s' ∧ y_I s = y_I s' ∧ y_K s = y_K s' ∧ y_T s = y_T s' := by
    simpa [Prod.ext_iff] using e
  rw [e1] at a1
  rw [e1, e2] at a3
  rw [e2] at a2
  rw [e3, e4] at a4
  rw [e5] at a5 a6
  exact ⟨fun w hw => pR_eq (a1 w hw) q1, ⟨by rw [q6]; exact a2, fun i hi w hw => pR_eq (a3 i hi w hw) q2⟩, fun i hi => ⟨by rw [q4]; exact (a4 i hi).1, fun hk w hw => pR_eq ((a4 i hi).2 hk w hw) q3⟩, ⟨by rw [q7]; exact a5, rowL_cong a6 q5⟩, p1, p2, p3⟩
theorem MR_fM {F A : List Nat} {s : Sg} {m m' : zm} (h : MR s m) (f : fM F A m m') (h1 : 811 ∉ A ∧ 812 ∉ A ∧ 813 ∉ A ∧ 814 ∉ A ∧ 815 ∉ A := by decide) (h2 : 6 ∉ F ∧ 10 ∉ F ∧ 3 ∉ F ∧ 2 ∉ F ∧ 1 ∉ F := by decide) : MR s m' := MR_rows h (f.1 _ (by decide) h1.1) (f.1 _ (by decide) h1.2.1) (f.1 _ (by decide) h1.2.2.1) (f.1 _ (by decide) h1.2.2.2.1) (f.1 _ (by decide) h1.2.2.2.2) (fM_2 f h2.1) (fM_2 f h2.2.1) rfl (by rw [fM_2 f h2.2.2.1]; exact h.2.2.2.2.1) (by rw [fM_2 f h2.2.2.2.1]; exact h.2.2.2.2.2.1) (by rw [fM_2 f h2.2.2.2.2]; exact h.2.2.2.2.2.2)
theorem MR_b {s : Sg} {m : zm} (h : MR s m) : MR (qs s 0) (wBegins m) := by
  have q : ∀ a, a ≠ 810 → (wBegins m).1 a = m.1 a := fun a ha => funext fun k => by
    unfold wBegins
    rw [rI_n (fun w => ha w.1), rI_n (fun w => ha w.1), rI_n (fun w => ha w.1)]
  have r : ∀ k, k ≠ 0 → k ≠ 1 → k ≠ 2 → (wBegins m).1 810 k = m.1 810 k := fun k h0 h1 h2 => by
    unfold wBegins
    rw [rI_n (fun w => h2 w.2), rI_n (fun w => h1 w.2), rI_n (fun w => h0 w.2)]
  refine MR_rows h (q _ (by decide)) (q _ (by decide)) (q _ (by decide)) (q _ (by decide)) (q _ (by decide)) (r _ (by decide) (by decide) (by decide)) (r _ (by decide) (by decide) (by decide)) rfl ?_ ?_ ?_
  · rw [r _ (by decide) (by decide) (by decide)]; exact h.2.2.2.2.1
  · unfold wBegins; exact rI_s
  · unfold wBegins; rw [rI_n (by decide), rI_s]; rfl
theorem MR_t {s : Sg} {m : zm} {t : Int32} (h : MR (qs s 0) m) : MR (qs s t) (wI m 810 1 t) := by
  have q : ∀ a, a ≠ 810 → (wI m 810 1 t).1 a = m.1 a := fun a ha => funext fun k => rI_n (fun w => ha w.1)
  have r : ∀ k, k ≠ 1 → (wI m 810 1 t).1 810 k = m.1 810 k := fun k h1 => rI_n (fun w => h1 w.2)
  refine MR_rows h (q _ (by decide)) (q _ (by decide)) (q _ (by decide)) (q _ (by decide)) (q _ (by decide)) (r _ (by decide)) (r _ (by decide)) rfl ?_ ?_ rI_s
  · rw [r _ (by decide)]; exact h.2.2.2.2.1
  · rw [r _ (by decide)]; exact h.2.2.2.2.2.1
theorem MR_1 {s : Sg} {m : zm} (h : MR (qs s 0) m) : m.1 810 1 = 0 := h.2.2.2.2.2.2
/-- a call of both answers alike, and leaves them alike -/
def CX (s s' : Sg) (r : Int32) (M : zM) (args : List Value) : Prop := ∀ (g : zG) (gr : Bool) (e : Nat) (m : zm) (Q : Option Value → zH → Prop), 18 ≤ e → CR s m → (∀ m', CR s' m' → fC m m' → Q (some (.int r)) (mk m')) → Ok g gr e M 0 0 (.ref 1 :: args) (mk m) Q
def MX (s s' : Sg) (r : Int32) (M : zM) (args : List Value) : Prop := ∀ (g : zG) (gr : Bool) (e : Nat) (m : zm) (Q : Option Value → zH → Prop), 18 ≤ e → MR s m → (∀ m', MR s' m' → fX m m' → Q (some (.int r)) (mk m')) → Ok g gr e M 0 0 (.ref 810 :: args) (mk m) Q
def BX (s : Sg) (M N : zM) (args : List Value) : Prop := ∃ s' r, sOK s' ∧ CX s s' r M args ∧ MX s s' r N args
/-- a number is that of a graph, or it isn't -/
theorem i_neg {l : Int32} (h : ¬ l < 0) : ∃ n, n < 2 ^ 31 ∧ l = nI n := by
  have h1 : (0 : Int32).toInt ≤ l.toInt := by
    have := Int32.not_lt.mp h
    exact Int32.le_iff_toInt_le.mp this
  have h2 := l.toInt_lt
  have h0 : (0 : Int32).toInt = 0 := by decide
  refine ⟨l.toInt.toNat, by omega, ?_⟩
  apply Int32.toInt_inj.mp
  rw [nI_toInt (by omega)]
  omega
theorem i_case (l : Int32) (n : Nat) (hn : n < 2 ^ 31) : (l < 0 ∨ (¬ l < 0 ∧ nI n ≤ l)) ∨ (∃ k, k < n ∧ l = nI k) := by
  by_cases h : l < 0
  · exact Or.inl (Or.inl h)
  · obtain ⟨k, hk, rfl⟩ := i_neg h
    by_cases z : k < n
    · exact Or.inr ⟨k, z, rfl⟩
    · exact Or.inl (Or.inr ⟨h, nI_le (by omega) hk⟩)
theorem i_nn {k : Nat} (hk : k < 2 ^ 31) : ¬ nI k < 0 := nI_pos hk
/-- the model's range -/
theorem in_y {k n : Nat} (hk : k ≤ n) (hn : n < 2 ^ 31) : tX10_in (nI k) 0 (nI n) := ⟨i_nn (by omega), nI_nlt hk hn⟩
theorem in_n {l : Int32} {n : Nat} (hn : n + 1 < 2 ^ 31) (h : l < 0 ∨ (¬ l < 0 ∧ nI (n + 1) ≤ l)) : ¬ tX10_in l 0 (nI n) := by
  rintro ⟨a, b⟩
  rcases h with z | ⟨z, y⟩
  · exact a z
  · obtain ⟨k, hk, rfl⟩ := i_neg z
    exact b (by
      rcases Nat.lt_or_ge n k with x | x
      · exact nI_lt x hk
      · exact absurd y (nI_ge (by omega) hn))
