/-! text: the class's reader -/
section ZRd
variable {g : zG} {gr : Bool} {e : Nat} {Q : Option Value → zH → Prop} {m : zm} {b : Nat → Nat} {n : Nat}
def XS (g : zG) (gr : Bool) (d : Nat) (Q : Option Value → zH → Prop) (m : zm) : Prop := (((m.1 5 7) < (m.1 5 5) → (∀ m1801 : zm, m1801 = wI m 5 8 ((m.1 5 7) + (1 : Int32)) → (vp_in (m1801.1 5 7) 400 ∧ (((tX5_isLetter (m1801.1 21 ((m1801.1 5 7).toNatClampNeg)) → (WP g gr (d + 1) mX5_step 0 0 98 [.ref 5, .retAddr 0] [] (mk m1801) Q)) ∧ (¬ tX5_isLetter (m1801.1 21 ((m1801.1 5 7).toNatClampNeg)) → (((m1801.1 21 ((m1801.1 5 7).toNatClampNeg)) < (48 : Int32) → ((¬ (m1801.1 21 ((m1801.1 5 7).toNatClampNeg)) = (59 : Int32) → (Q none (mk (wI m1801 5 6 (4 : Int32))))) ∧ ((m1801.1 21 ((m1801.1 5 7).toNatClampNeg)) = (59 : Int32) → (Q none (mk (wI m1801 5 6 (3 : Int32))))))) ∧ (¬ (m1801.1 21 ((m1801.1 5 7).toNatClampNeg)) < (48 : Int32) → (((57 : Int32) < (m1801.1 21 ((m1801.1 5 7).toNatClampNeg)) → ((¬ (m1801.1 21 ((m1801.1 5 7).toNatClampNeg)) = (59 : Int32) → (Q none (mk (wI m1801 5 6 (4 : Int32))))) ∧ ((m1801.1 21 ((m1801.1 5 7).toNatClampNeg)) = (59 : Int32) → (Q none (mk (wI m1801 5 6 (3 : Int32))))))) ∧ (¬ (57 : Int32) < (m1801.1 21 ((m1801.1 5 7).toNatClampNeg)) → (Q none (mk (wI m1801 5 6 (1 : Int32)))))))))))))) ∧ (¬ (m.1 5 7) < (m.1 5 5) → (∀ m1813 : zm, m1813 = wI m 5 6 (0 : Int32) → (Q none (mk (wI m1813 5 8 (m1813.1 5 7)))))))
/-- what a step leaves of the reader -/
def f678 (m m' : zm) : Prop := (∀ a k, ¬ (a = 5 ∧ (k = 6 ∨ k = 7 ∨ k = 8)) → m'.1 a k = m.1 a k) ∧ m'.2 = m.2
theorem f678_refl (m : zm) : f678 m m := ⟨fun _ _ _ => rfl, rfl⟩
theorem f678_trans {m m' m'' : zm} (h1 : f678 m m') (h2 : f678 m' m'') : f678 m m'' := ⟨fun a k h => (h2.1 a k h).trans (h1.1 a k h), h2.2.trans h1.2⟩
theorem f678_w {m : zm} {k : Nat} {v : Int32} (h : k = 6 ∨ k = 7 ∨ k = 8 := by decide) : f678 m (wI m 5 k v) := ⟨fun a j q => rI_n fun z => q ⟨z.1, z.2 ▸ h⟩, rfl⟩
theorem lt_c {x : Nat} (h : x < 256) : tX5_isLetter (nI x) ↔ isLt x = true := by
  constructor
  · rintro ⟨h1, h2⟩
    refine isLt_t (Nat.le_of_not_lt fun z => h1 (nI_lt z (by decide))) (Nat.le_of_not_lt fun z => h2 (nI_lt z (by omega)))
  · intro z
    have := isLt_e z
    exact ⟨nI_nlt this.1 (by omega), nI_nlt this.2 (by decide)⟩
theorem k_wnd (hb : ∀ i, b i < 256) (hn : n ≤ 400) {m0 : zm} (h5 : m0.1 5 5 = nI n) (hr : ∀ i, i < n → m0.1 21 i = nI (b i)) {d : Nat} : ∀ (f p : Nat) (m : zm), f = n - p → p ≤ n → m.1 5 8 = nI p → f678 m0 m → (∀ m', m'.1 5 6 = nI 2 → m'.1 5 7 = m.1 5 7 → m'.1 5 8 = nI (wnd b n f p) → f678 m0 m' → Q none (mk m')) → WP g gr (d + 1) mX5_step 0 0 98 [.ref 5, .retAddr 0] [] (mk m) Q := by
  intro f
  induction f with
  | zero =>
    intro p m hf hp h8 f0 K
    have e5 : m.1 5 5 = nI n := by rw [f0.1 5 5 (by decide)]; exact h5
    refine b_X5_step_98 (pk_le n p (fun _ => ?_) (fun z => by omega) e5 h8)
    exact K _ rI_s (rI_n (by decide)) ((rI_n (by decide)).trans h8) (f678_trans f0 f678_w)
  | succ f ih =>
    intro p m hf hp h8 f0 K
    have e5 : m.1 5 5 = nI n := by rw [f0.1 5 5 (by decide)]; exact h5
    have hpn : p < n := by omega
    have eb : m.1 21 p = nI (b p) := by rw [f0.1 21 p (by omega)]; exact hr p hpn
    refine b_X5_step_98 (pk_le n p (fun z => by omega) (fun _ => ⟨by rw [h8]; exact pk_in p 400 (by omega), ?_⟩) e5 h8)
    rw [h8, cw (show p < 2 ^ 31 by omega), eb]
    by_cases hl : isLt (b p) = true
    · refine ⟨fun _ => ?_, fun z => absurd ((lt_c (hb p)).mpr hl) z⟩
      refine ih (p + 1) _ (by omega) (by omega) (by rw [rI_s, nI_1]) (f678_trans f0 f678_w) (fun m' a1 a2 a3 a4 => K m' a1 (a2.trans (rI_n (by decide))) ?_ a4)
      rw [a3]
      show _ = nI (if p < n ∧ isLt (b p) = true then _ else _)
      rw [if_pos ⟨hpn, hl⟩]
    · refine ⟨fun z => absurd ((lt_c (hb p)).mp z) hl, fun _ => ?_⟩
      refine K _ rI_s (rI_n (by decide)) ((rI_n (by decide)).trans (h8.trans ?_)) (f678_trans f0 f678_w)
      show _ = nI (if p < n ∧ isLt (b p) = true then _ else _)
      rw [if_neg (fun z => hl z.2)]
theorem k_tka (hb : ∀ i, b i < 256) (hn : n ≤ 400) {m0 : zm} (h5 : m0.1 5 5 = nI n) (hr : ∀ i, i < n → m0.1 21 i = nI (b i)) {d a : Nat} (ha : a ≤ n) (h7 : m.1 5 7 = nI a) (f0 : f678 m0 m) (K : ∀ m', m'.1 5 6 = nI (tka b n a).1 → m'.1 5 7 = nI (tka b n a).2.1 → m'.1 5 8 = nI (tka b n a).2.2 → f678 m0 m' → Q none (mk m')) : XS g gr d Q m := by
  have e5 : m.1 5 5 = nI n := by rw [f0.1 5 5 (by decide)]; exact h5
  refine pk_lt a n (fun han => ?_) (fun han => ?_) h7 e5
  · have eb : m.1 21 a = nI (b a) := by rw [f0.1 21 a (by omega)]; exact hr a han
    rintro m1 rfl
    rw [rI_n (show ¬ (5 = 5 ∧ 7 = 8) by decide), h7]
    refine ⟨pk_in a 400 (by omega), ?_⟩
    rw [cw (show a < 2 ^ 31 by omega), rI_n (show ¬ (21 = 5 ∧ a = 8) by omega), eb, nI_1]
    have e7 : (wI m 5 8 (nI (a + 1))).1 5 7 = nI a := (rI_n (by decide)).trans h7
    by_cases hl : isLt (b a) = true
    · refine ⟨fun _ => ?_, fun z => absurd ((lt_c (hb a)).mpr hl) z⟩
      have et : tka b n a = (2, a, wnd b n (n - (a + 1)) (a + 1)) := by unfold tka; rw [if_neg (by omega), if_pos hl]
      rw [et] at K
      exact k_wnd hb hn h5 hr (n - (a + 1)) (a + 1) _ rfl (by omega) rI_s (f678_trans f0 f678_w) (fun m' a1 a2 a3 a4 => K m' a1 (a2.trans e7) a3 a4)
    · refine ⟨fun z => absurd ((lt_c (hb a)).mp z) hl, fun _ => ?_⟩
      have hba := hb a
      have fin : ∀ t : Nat, (tka b n a) = (t, a, a + 1) → ∀ x, x = nI t → Q none (mk (wI (wI m 5 8 (nI (a + 1))) 5 6 x)) := fun t et x hx => by
        subst hx
        rw [et] at K
        exact K _ rI_s ((rI_n (by decide)).trans e7) ((rI_n (by decide)).trans rI_s) (f678_trans f0 (f678_trans f678_w f678_w))
      have et0 : tka b n a = if 48 ≤ b a ∧ b a ≤ 57 then (1, a, a + 1) else if b a = 59 then (3, a, a + 1) else (4, a, a + 1) := by unfold tka; rw [if_neg (by omega), if_neg hl]
      refine pk_lt (b a) 48 (fun z1 => ?_) (fun z1 => pk_lt 57 (b a) (fun z2 => ?_) (fun z2 => fin 1 (by rw [et0, if_pos ⟨by omega, by omega⟩]) _ rfl))
      · refine pk_eq (b a) 59 (fun z3 => fin 3 (by rw [et0, if_neg (by omega), if_pos z3]) _ rfl) (fun z3 => fin 4 (by rw [et0, if_neg (by omega), if_neg z3]) _ rfl) |> fun h => ⟨h.2, h.1⟩
      · refine pk_eq (b a) 59 (fun z3 => fin 3 (by rw [et0, if_neg (by omega), if_pos z3]) _ rfl) (fun z3 => fin 4 (by rw [et0, if_neg (by omega), if_neg z3]) _ rfl) |> fun h => ⟨h.2, h.1⟩
  · have han2 : a = n := by omega
    have et : tka b n a = (0, a, a) := by unfold tka; rw [if_pos (by omega)]
    rw [et] at K
    rintro m1 rfl
    refine K _ ((rI_n (by decide)).trans rI_s) ((rI_n (by decide)).trans ((rI_n (by decide)).trans h7)) ?_ (f678_trans f0 (f678_trans f678_w f678_w))
    rw [rI_s, rI_n (by decide), h7]
theorem k_step (he : 1 ≤ e) (hb : ∀ i, b i < 256) (hn : n ≤ 400) {p : Nat} (h5 : m.1 5 5 = nI n) (hr : ∀ i, i < n → m.1 21 i = nI (b i)) (h8 : m.1 5 8 = nI p) (hp : p ≤ n) (K : ∀ m', m'.1 5 6 = nI (tk b n p).1 → m'.1 5 7 = nI (tk b n p).2.1 → m'.1 5 8 = nI (tk b n p).2.2 → f678 m m' → Q none (mk m')) : Ok g gr e mX5_step 0 0 [.ref 5] (mk m) Q := by
  obtain ⟨d, rfl⟩ := dn he
  refine b_X5_step_0 ?_
  have key : ∀ (f p : Nat) (m' : zm), f = n - p → p ≤ n → m'.1 5 7 = nI p → f678 m m' → (∀ m'', m''.1 5 6 = nI (tka b n (skb b n f p)).1 → m''.1 5 7 = nI (tka b n (skb b n f p)).2.1 → m''.1 5 8 = nI (tka b n (skb b n f p)).2.2 → f678 m m'' → Q none (mk m'')) → WP g gr (d + 1) mX5_step 0 0 8 [.ref 5, .retAddr 0] [] (mk m') Q := by
    intro f
    induction f with
    | zero =>
      intro p m' hf hp h7 f0 K
      have e5 : m'.1 5 5 = nI n := by rw [f0.1 5 5 (by decide)]; exact h5
      refine b_X5_step_8 (pk_le n p (fun _ => ?_) (fun z => by omega) e5 h7)
      exact k_tka hb hn h5 hr hp h7 f0 K
    | succ f ih =>
      intro p m' hf hp h7 f0 K
      have e5 : m'.1 5 5 = nI n := by rw [f0.1 5 5 (by decide)]; exact h5
      have hpn : p < n := by omega
      have eb : m'.1 21 p = nI (b p) := by rw [f0.1 21 p (by omega)]; exact hr p hpn
      have es : skb b n (f + 1) p = if p < n ∧ b p = 32 then skb b n f (p + 1) else p := rfl
      refine b_X5_step_8 (pk_le n p (fun z => by omega) (fun _ => ⟨by rw [h7]; exact pk_in p 400 (by omega), ?_⟩) e5 h7)
      have e21 : m'.1 21 ((m'.1 5 7).toNatClampNeg) = nI (b p) := by rw [h7, cw (show p < 2 ^ 31 by omega)]; exact eb
      have hbp := hb p
      by_cases z : b p = 32
      · refine ⟨fun y => absurd (by rw [e21, z]; rfl) y, fun _ => ?_⟩
        rw [es, if_pos ⟨hpn, z⟩] at K
        exact ih (p + 1) _ (by omega) (by omega) (by rw [rI_s, h7, nI_1]) (f678_trans f0 f678_w) K
      · refine ⟨fun _ => ?_, fun y => absurd ((nI_eq (by omega) (by decide)).mp (e21.symm.trans y)) z⟩
        rw [es, if_neg (fun y => z y.2)] at K
        exact k_tka hb hn h5 hr hp h7 f0 K
  exact key (n - p) p _ rfl hp (rI_s.trans h8) f678_w K
/-- the reader at a token -/
def cP (m : zm) (b : Nat → Nat) (n : Nat) (σ : Sr) : Prop := m.1 5 5 = nI n ∧ (∀ i, i < n → m.1 21 i = nI (b i)) ∧ m.1 5 6 = nI (s_k σ) ∧ m.1 5 7 = nI (s_a σ) ∧ m.1 5 8 = nI (s_x σ) ∧ m.1 5 9 = nI (s_p σ) ∧ pG m 6 (s_G σ)
def fRd (m m' : zm) : Prop := fz 5 21 m m' ∧ m'.1 5 0 = m.1 5 0
def fRk (m m' : zm) : Prop := fRd m m' ∧ m'.1 5 1 = m.1 5 1
theorem fRd_trans {m m' m'' : zm} (h1 : fRd m m') (h2 : fRd m' m'') : fRd m m'' := ⟨fz_trans h1.1 h2.1, h2.2.trans h1.2⟩
theorem fRk_trans {m m' m'' : zm} (h1 : fRk m m') (h2 : fRk m' m'') : fRk m m'' := ⟨fRd_trans h1.1 h2.1, h2.2.trans h1.2⟩
theorem fRk_refl (m : zm) : fRk m m := ⟨⟨fz_refl _ _ _, rfl⟩, rfl⟩
theorem fRk_678 {m m' : zm} (h : f678 m m') : fRk m m' := ⟨⟨fun a ha => ⟨funext fun k => h.1 a k (by omega), by rw [h.2]⟩, h.1 5 0 (by decide)⟩, h.1 5 1 (by decide)⟩
theorem fRk_G {m m' : zm} (h : fz 6 21 m m') : fRk m m' := ⟨⟨fun a ha => h a (by omega), congrFun (h 5 (by decide)).1 0⟩, congrFun (h 5 (by decide)).1 1⟩
def cE (m m' : zm) (f p : Nat) : Prop := m'.1 5 1 = nI f ∧ m'.1 5 2 = nI p ∧ (∃ R, gOK R ∧ pG m' 6 R) ∧ fRd m m'
/-- what a part of the reading answers and leaves -/
def cR (m m' : zm) (b : Nat → Nat) (n : Nat) (r : Rs) (v : Int32) : Prop := (∀ f p, r = .inl (f, p) → v = 0 ∧ cE m m' f p) ∧ ∀ τ, r = .inr τ → v = 1 ∧ cP m' b n τ ∧ fRk m m'
theorem cR_l {m m' : zm} {b : Nat → Nat} {n f p : Nat} (h : cE m m' f p) : cR m m' b n (.inl (f, p)) 0 := ⟨fun f2 p2 e => (by cases e; exact ⟨rfl, h⟩), fun τ e => (by cases e)⟩
theorem cR_r {m m' : zm} {b : Nat → Nat} {n : Nat} {τ : Sr} (h : cP m' b n τ) (f : fRk m m') : cR m m' b n (.inr τ) 1 := ⟨fun f2 p2 e => (by cases e), fun τ2 e => by cases e; exact ⟨rfl, h, f⟩⟩
theorem cR_f {m m1 m' : zm} {b : Nat → Nat} {n : Nat} {r : Rs} {v : Int32} (f : fRk m m1) (h : cR m1 m' b n r v) : cR m m' b n r v := ⟨fun f2 p2 e => ⟨(h.1 f2 p2 e).1, (h.1 f2 p2 e).2.1, (h.1 f2 p2 e).2.2.1, (h.1 f2 p2 e).2.2.2.1, fRd_trans f.1 (h.1 f2 p2 e).2.2.2.2⟩, fun τ e => ⟨(h.2 τ e).1, (h.2 τ e).2.1, fRk_trans f (h.2 τ e).2.2⟩⟩
theorem k_stepP (he : 1 ≤ e) (hb : ∀ i, b i < 256) (hn : n ≤ 400) {σ : Sr} (h : cP m b n σ) (hx : s_x σ ≤ n) (K : ∀ m', cP m' b n (s_n b n σ) → fRk m m' → Q none (mk m')) : Ok g gr e mX5_step 0 0 [.ref 5] (mk m) Q :=
  k_step he hb hn h.1 h.2.1 h.2.2.2.2.1 hx fun m' a1 a2 a3 f => K m' ⟨by rw [f.1 5 5 (by decide)]; exact h.1, fun i hi => by rw [f.1 21 i (by omega)]; exact h.2.1 i hi, a1, a2, a3, by rw [f.1 5 9 (by decide)]; exact h.2.2.2.2.2.1, pG_eq h.2.2.2.2.2.2 fun a h1 h2 => funext fun k => f.1 a k (by omega)⟩ (fRk_678 f)
theorem c_err {σ : Sr} (h : cP m b n σ) (hG : gOK (s_G σ)) {f : Nat} {c : Int32} (hc : c = nI f) (K : ∀ m', cE m m' f (s_a σ) → Q (some (.int 0)) (mk m')) : ∀ m1, m1 = wI m 5 1 c → Q (some (.int 0)) (mk (wI m1 5 2 (m1.1 5 7))) := by
  rintro m1 rfl
  refine K _ ⟨?_, ?_, ⟨s_G σ, hG, pG_eq h.2.2.2.2.2.2 fun a h1 h2 => funext fun k => by rw [rI_n (by omega), rI_n (by omega)]⟩, ⟨fun a ha => ⟨funext fun k => by rw [rI_n (by omega), rI_n (by omega)], rfl⟩, by rw [rI_n (by decide), rI_n (by decide)]⟩⟩
  · rw [rI_n (by decide), rI_s, hc]
  · rw [rI_s, rI_n (by decide)]; exact h.2.2.2.1
theorem c_dig {σ : Sr} (hn : n ≤ 400) (h : cP m b n σ) (hW : srW b n σ) (k1 : s_k σ = 1) : s_a σ < n ∧ vp_in (m.1 5 7) 400 ∧ ¬ (400 : Int32) ≤ m.1 5 7 ∧ m.1 21 ((m.1 5 7).toNatClampNeg) - 48 = nI (s_d b σ) := by
  have ha : s_a σ < n := (hW.1.2.2.1 (by show σ.1.1 ≠ 0; rw [show σ.1.1 = 1 from k1]; decide)).1
  have hd := hW.1.2.2.2.2.1 k1
  refine ⟨ha, by rw [h.2.2.2.1]; exact pk_in (s_a σ) 400 (by omega), by rw [h.2.2.2.1]; exact nI_ge (a := s_a σ) (b := 400) (by omega) (by decide), ?_⟩
  rw [h.2.2.2.1, cw (show s_a σ < 2 ^ 31 by omega), h.2.1 _ ha, show (48 : Int32) = nI 48 from rfl, pk_sub hd.1]
  rfl
theorem c_k1 {σ : Sr} (h : cP m b n σ) (k1 : s_k σ = 1) : m.1 5 6 = 1 := by rw [h.2.2.1, k1]; rfl
theorem c_kn {σ : Sr} (h : cP m b n σ) (hW : srW b n σ) {j : Nat} (hj : j < 5) (k1 : ¬ s_k σ = j) : ¬ m.1 5 6 = nI j := by
  have := hW.1.2.2.2.2.2.2
  rw [h.2.2.1]
  exact fun z => k1 ((nI_eq (by show σ.1.1 < _; omega) (by omega)).mp z)
end ZRd
