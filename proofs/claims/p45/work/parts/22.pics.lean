/-! pictures in the memory; what stays as it was -/
/-- rows out of lo .. hi less 1 are as they were -/
def fz (lo hi : Nat) (m m' : zm) : Prop := ∀ a, (a < lo ∨ hi ≤ a) → m'.1 a = m.1 a ∧ m'.2 a = m.2 a
theorem fz_refl (lo hi : Nat) (m : zm) : fz lo hi m m := fun _ _ => ⟨rfl, rfl⟩
theorem fz_trans {lo hi : Nat} {m m' m'' : zm} (h1 : fz lo hi m m') (h2 : fz lo hi m' m'') : fz lo hi m m'' := fun a ha => ⟨(h2 a ha).1.trans (h1 a ha).1, (h2 a ha).2.trans (h1 a ha).2⟩
theorem fz_mono {lo hi lo' hi' : Nat} {m m' : zm} (h : fz lo hi m m') (h1 : lo' ≤ lo := by omega) (h2 : hi ≤ hi' := by omega) : fz lo' hi' m m' := fun a ha => h a (by omega)
theorem fz_wI {lo hi a k : Nat} {v : Int32} {m : zm} (h1 : lo ≤ a := by omega) (h2 : a < hi := by omega) : fz lo hi m (wI m a k v) := fun b hb => ⟨funext fun j => if_neg (fun q => by omega), rfl⟩
theorem fz_wL {lo hi a k : Nat} {v : Int64} {m : zm} (h1 : lo ≤ a := by omega) (h2 : a < hi := by omega) : fz lo hi m (wL m a k v) := fun b hb => ⟨rfl, funext fun j => if_neg (fun q => by omega)⟩
theorem fz_wC {lo hi b a n : Nat} {m : zm} (h1 : lo ≤ b := by omega) (h2 : b < hi := by omega) : fz lo hi m (wC m b a n) := fun x hx => ⟨funext fun j => by rw [wC_1, if_neg (fun q => by omega)], rfl⟩
theorem fz_eI {lo hi a k : Nat} {v : Int32} {m m1 : zm} (h : m1 = wI m a k v) (h1 : lo ≤ a := by omega) (h2 : a < hi := by omega) : fz lo hi m m1 := by rw [h]; exact fz_wI h1 h2
theorem fz_eL {lo hi a k : Nat} {v : Int64} {m m1 : zm} (h : m1 = wL m a k v) (h1 : lo ≤ a := by omega) (h2 : a < hi := by omega) : fz lo hi m m1 := by rw [h]; exact fz_wL h1 h2
theorem rI_s {m : zm} {a k : Nat} {v : Int32} : (wI m a k v).1 a k = v := if_pos ⟨rfl, rfl⟩
theorem rI_n {m : zm} {a k b j : Nat} {v : Int32} (h : ¬ (b = a ∧ j = k)) : (wI m a k v).1 b j = m.1 b j := if_neg h
theorem rL_s {m : zm} {a k : Nat} {v : Int64} : (wL m a k v).2 a k = v := if_pos ⟨rfl, rfl⟩
theorem rL_n {m : zm} {a k b j : Nat} {v : Int64} (h : ¬ (b = a ∧ j = k)) : (wL m a k v).2 b j = m.2 b j := if_neg h
theorem fz_1 {lo hi : Nat} {m m' : zm} (h : fz lo hi m m') {a : Nat} (ha : a < lo ∨ hi ≤ a) (k : Nat) : m'.1 a k = m.1 a k := congrFun (h a ha).1 k
theorem fz_2 {lo hi : Nat} {m m' : zm} (h : fz lo hi m m') {a : Nat} (ha : a < lo ∨ hi ≤ a) (k : Nat) : m'.2 a k = m.2 a k := congrFun (h a ha).2 k
theorem dn {k e : Nat} (h : k ≤ e) : ∃ d, e = d + k := ⟨e - k, by omega⟩
def pL (m : zm) (o : Nat) (p : Nat → Nat → Nat → Bool) : Prop := ∀ k x, k < 4 → x < 7 → m.1 (o + 11 + k) x = nI (bm (p k x) 7)
def pG (m : zm) (o : Nat) (G : Gr) : Prop := m.1 o 0 = nI (gn G) ∧ (∀ v, v < 7 → m.1 (o + 1) v = nI (gc G v)) ∧ (∀ a b, a < 7 → b < 7 → m.1 (o + 3 + a) b = nI (gk G a b)) ∧ pL m o (fun k x y => lk k (gk G x y))
theorem pL_cong {m : zm} {o : Nat} {p q : Nat → Nat → Nat → Bool} (h : pL m o p) (e : ∀ k x y, k < 4 → x < 7 → y < 7 → p k x y = q k x y) : pL m o q := fun k x hk hx => by rw [h k x hk hx, bm_cong (fun y hy => e k x y hk hx hy)]
theorem pL_fz {lo hi : Nat} {m m' : zm} {o : Nat} {p : Nat → Nat → Nat → Bool} (h : pL m o p) (f : fz lo hi m m') (d : o + 15 ≤ lo ∨ hi ≤ o + 11) : pL m' o p := fun k x hk hx => by rw [fz_1 f (by omega)]; exact h k x hk hx
theorem pG_fz {lo hi : Nat} {m m' : zm} {o : Nat} {G : Gr} (h : pG m o G) (f : fz lo hi m m') (d : o + 15 ≤ lo ∨ hi ≤ o) : pG m' o G :=
  ⟨by rw [fz_1 f (by omega)]; exact h.1, fun v hv => by rw [fz_1 f (by omega)]; exact h.2.1 v hv, fun a b ha hb => by rw [fz_1 f (by omega)]; exact h.2.2.1 a b ha hb, pL_fz h.2.2.2 f (by omega)⟩
theorem i_bmclr {p : Nat → Bool} {b : Nat} (hb : b < 7) : nI (bm p 7) &&& (((1 : Int32) <<< (nI b &&& 31)) ^^^ (-1 : Int32)) = nI (bm (fun y => p y && !(y == b)) 7) := by
  rw [i_sh1 (by omega), i_clr0 b hb _ (bm_7 (Nat.le_refl 7))]
  congr 1
  refine bits_eq (n := 7) (Nat.and_lt_two_pow _ (show 127 - 2 ^ b < 2 ^ 7 by have := Nat.two_pow_pos b; omega)) (bm_lt _ _) fun i hi => ?_
  have key : ∀ b, b < 7 → ∀ i, i < 7 → (127 - 2 ^ b).testBit i = !(i == b) := by decide +kernel
  rw [Nat.testBit_and, bm_bit, bm_bit, key b hb i hi]
  simp [hi]
theorem i_bmset {p : Nat → Bool} {b : Nat} (hb : b < 7) : nI (bm p 7) ||| ((1 : Int32) <<< (nI b &&& 31)) = nI (bm (fun y => p y || y == b) 7) := by
  rw [i_sh1 (by omega), fa_or, bm_add hb]
theorem pL_clr {m : zm} {o k0 x0 b : Nat} {p : Nat → Nat → Nat → Bool} (h : pL m o p) (hk : k0 < 4) (hx : x0 < 7) (hb : b < 7) : pL (wI m (o + 11 + k0) x0 ((m.1 (o + 11 + k0) x0) &&& (((1 : Int32) <<< (nI b &&& 31)) ^^^ (-1 : Int32)))) o (fun k x y => p k x y && !(k == k0 && (x == x0 && y == b))) := fun k x hk' hx' => by
  by_cases e : k = k0 ∧ x = x0
  · obtain ⟨rfl, rfl⟩ := e
    rw [rI_s, h k x hk' hx', i_bmclr hb]
    congr 1
    exact bm_cong fun y _ => by simp
  · rw [rI_n (fun q => e ⟨by omega, q.2⟩), h k x hk' hx']
    congr 1
    refine bm_cong fun y _ => ?_
    have : (k == k0 && (x == x0 && y == b)) = false := by
      by_cases e1 : k = k0
      · have : x ≠ x0 := fun z => e ⟨e1, z⟩
        simp [this]
      · simp [e1]
    show p k x y = (p k x y && !(k == k0 && (x == x0 && y == b)))
    rw [this]; simp
theorem pL_set {m : zm} {o k0 x0 b : Nat} {p : Nat → Nat → Nat → Bool} (h : pL m o p) (hk : k0 < 4) (hx : x0 < 7) (hb : b < 7) : pL (wI m (o + 11 + k0) x0 ((m.1 (o + 11 + k0) x0) ||| ((1 : Int32) <<< (nI b &&& 31)))) o (fun k x y => p k x y || (k == k0 && (x == x0 && y == b))) := fun k x hk' hx' => by
  by_cases e : k = k0 ∧ x = x0
  · obtain ⟨rfl, rfl⟩ := e
    rw [rI_s, h k x hk' hx', i_bmset hb]
    congr 1
    exact bm_cong fun y _ => by simp
  · rw [rI_n (fun q => e ⟨by omega, q.2⟩), h k x hk' hx']
    congr 1
    refine bm_cong fun y _ => ?_
    have : (k == k0 && (x == x0 && y == b)) = false := by
      by_cases e1 : k = k0
      · have : x ≠ x0 := fun z => e ⟨e1, z⟩
        simp [this]
      · simp [e1]
    show p k x y = (p k x y || (k == k0 && (x == x0 && y == b)))
    rw [this]; simp
section ZGr
variable {g : zG} {gr : Bool} {e : Nat} {m : zm} {Q : Option Value → zH → Prop}
theorem w_join {o a b k : Nat} {G : Gr} (ho : sX1 o) (hp : pG m o G) (ha : a < 7) (hb : b < 7) (hab : a ≠ b) (hk : k < 4) (H : ∀ m', pG m' o (gJ G a b k) → fz o (o + 15) m m' → Q none (mk m')) : ∀ j i m', i + j = 4 → pL m' o (fun k' x y => lk k' (gk G x y) && !(decide (k' < i) && pr2 a b x y)) → fz (o + 11) (o + 15) m m' → WP g gr e mX1_join 0 0 3 [.ref o, .int (nI a), .int (nI b), .int (nI k), .int (nI i)] [] (mk m') Q := by
  intro j
  induction j with
  | zero =>
    intro i m' hi hl hf
    have hi : i = 4 := by omega
    subst hi
    have hl : pL m' o (fun k' x y => lk k' (gk G x y) && !(pr2 a b x y)) := pL_cong hl fun k' x y h1 _ _ => by simp [h1]
    have hn : m'.1 o 0 = nI (gn G) := by rw [fz_1 hf (by omega)]; exact hp.1
    have hc : ∀ v, v < 7 → m'.1 (o + 1) v = nI (gc G v) := fun v hv => by rw [fz_1 hf (by omega)]; exact hp.2.1 v hv
    have hkk : ∀ x y, x < 7 → y < 7 → m'.1 (o + 3 + x) y = nI (gk G x y) := fun x y hx hy => by rw [fz_1 hf (by omega)]; exact hp.2.2.1 x y hx hy
    refine b_X1_join_3 (d := e) ho (pk_le 4 4 (fun _ => ⟨pk_in a 7 ha, pk_in b 7 hb, ?_⟩) (fun z => absurd z (by decide)))
    rw [nI_clamp (show a < 2 ^ 31 by omega), nI_clamp (show b < 2 ^ 31 by omega), nI_clamp (show k < 2 ^ 31 by omega)]
    intro m1 e1
    have f1 : fz o (o + 15) m' m1 := by rw [e1]; exact fz_wI
    have l1 : pL m1 o (fun k' x y => lk k' (gk G x y) && !(pr2 a b x y)) := fun k' x h1 h2 => by rw [e1, rI_n (by omega)]; exact hl k' x h1 h2
    have hff : fz o (o + 15) m m' := fz_mono hf
    have q2 : ∀ m2 : zm, m2 = wI m1 (o + 3 + b) a (nI k) → ∀ m3, fz (o + 11) (o + 15) m2 m3 → pL m3 o (fun k' x y => lk k' (gk (gJ G a b k) x y)) → Q none (mk m3) := fun m2 e2 m3 f3 l3 => by
      refine H m3 ⟨?_, fun v hv => ?_, fun x y hx hy => ?_, l3⟩ (fz_trans hff (fz_trans f1 (fz_trans (by rw [e2]; exact fz_wI) (fz_mono f3))))
      · rw [fz_1 f3 (by omega), e2, rI_n (by omega), e1, rI_n (by omega)]; exact hn
      · rw [fz_1 f3 (by omega), e2, rI_n (by omega), e1, rI_n (by omega)]; exact hc v hv
      · rw [fz_1 f3 (by omega), e2]
        show _ = nI (if pr2 a b x y = true then k else gk G x y)
        by_cases h1 : x = b ∧ y = a
        · obtain ⟨rfl, rfl⟩ := h1
          rw [rI_s, if_pos (pr2_iff.mpr (Or.inr ⟨rfl, rfl⟩))]
        · rw [rI_n (fun q => h1 ⟨by omega, q.2⟩), e1]
          by_cases h2 : x = a ∧ y = b
          · obtain ⟨rfl, rfl⟩ := h2
            rw [rI_s, if_pos (pr2_iff.mpr (Or.inl ⟨rfl, rfl⟩))]
          · rw [rI_n (fun q => h2 ⟨by omega, q.2⟩), if_neg (fun z => (pr2_iff.mp z).elim h2 h1)]
            exact hkk x y hx hy
    have l2 : ∀ m2 : zm, m2 = wI m1 (o + 3 + b) a (nI k) → pL m2 o (fun k' x y => lk k' (gk G x y) && !(pr2 a b x y)) := fun m2 e2 k' x h1 h2 => by rw [e2, rI_n (by omega)]; exact l1 k' x h1 h2
    refine pk_eq k 0 (fun hk0 => ?_) (fun hk0 => ?_)
    · refine q2 _ rfl _ (fz_refl _ _ _) (pL_cong (l2 _ rfl) fun k' x y _ _ _ => ?_)
      show _ = lk k' (if pr2 a b x y = true then k else gk G x y)
      cases h : pr2 a b x y with
      | true => rw [if_pos rfl, hk0, lk_0]; simp
      | false => rw [if_neg (by decide)]; simp
    · intro m2 e2 m3 e3 m4 e4
      refine ⟨pk_in k 4 hk, ?_⟩
      intro m5 e5
      have s2 := l2 m2 e2
      have s3 := pL_set s2 (k0 := 0) (x0 := a) (b := b) (by decide) ha hb
      rw [Nat.add_zero, ← e3] at s3
      have s4 := pL_set s3 (k0 := 0) (x0 := b) (b := a) (by decide) hb ha
      rw [Nat.add_zero, ← e4] at s4
      have s5 := pL_set s4 (k0 := k) (x0 := a) (b := b) hk ha hb
      rw [← e5] at s5
      have s6 := pL_set s5 (k0 := k) (x0 := b) (b := a) hk hb ha
      have f3 : fz (o + 11) (o + 15) m2 m3 := by rw [e3]; exact fz_wI
      have f4 : fz (o + 11) (o + 15) m3 m4 := by rw [e4]; exact fz_wI
      have f5 : fz (o + 11) (o + 15) m4 m5 := by rw [e5]; exact fz_wI
      refine q2 m2 e2 _ (fz_trans f3 (fz_trans f4 (fz_trans f5 fz_wI))) (pL_cong s6 fun k' x y _ _ _ => ?_)
      show _ = lk k' (if pr2 a b x y = true then k else gk G x y)
      rw [show pr2 a b x y = (x == a && y == b || x == b && y == a) from rfl]
      have e8 : (k' == 0 || k' == k) = lk k' k := by
        unfold lk
        by_cases z : k' = 0
        · rw [if_pos z]; simp [z, hk0]
        · rw [if_neg z]
          have : (k' == 0) = false := by simp [z]
          rw [this, Bool.false_or]
          exact Bool.beq_comm
      rw [apply_ite (lk k'), ← e8]
      generalize (x == a && y == b) = A
      generalize (x == b && y == a) = B
      cases A <;> cases B <;> cases (k' == 0) <;> cases (k' == k) <;> simp
  | succ j ih =>
    intro i m' hi hl hf
    refine b_X1_join_3 (d := e) ho (pk_le 4 i (fun z => by omega) (fun hi4 => ⟨pk_in i 4 hi4, pk_in a 7 ha, ?_⟩))
    rw [nI_clamp (show a < 2 ^ 31 by omega), nI_clamp (show b < 2 ^ 31 by omega), nI_clamp (show i < 2 ^ 31 by omega), nI_1]
    intro m1 e1
    refine ⟨pk_in b 7 hb, ?_⟩
    have s1 := pL_clr hl (k0 := i) (x0 := a) (b := b) hi4 ha hb
    rw [← e1] at s1
    have s2 := pL_clr s1 (k0 := i) (x0 := b) (b := a) hi4 hb ha
    refine ih (i + 1) _ (by omega) (pL_cong s2 fun k' x y _ _ _ => ?_) (fz_trans hf (fz_trans (by rw [e1]; exact fz_wI) fz_wI))
    have e7 : pr2 a b x y = (x == a && y == b || x == b && y == a) := rfl
    rw [e7]
    by_cases z : k' = i
    · subst z
      simp
      cases lk k' (gk G x y) <;> cases x == a <;> cases x == b <;> cases y == a <;> cases y == b <;> rfl
    · have : (decide (k' < i + 1)) = decide (k' < i) := decide_eq_decide.mpr (by omega)
      have zz : (k' == i) = false := by rw [beq_eq_false_iff_ne]; exact z
      rw [this, zz]
      simp
theorem k_join {o a b k : Nat} {G : Gr} (ho : sX1 o) (hp : pG m o G) (ha : a < 7) (hb : b < 7) (hab : a ≠ b) (hk : k < 4) (H : ∀ m', pG m' o (gJ G a b k) → fz o (o + 15) m m' → Q none (mk m')) : Ok g gr e mX1_join 0 0 [.ref o, .int (nI a), .int (nI b), .int (nI k)] (mk m) Q :=
  b_X1_join_0 (d := e) ho (w_join ho hp ha hb hab hk H 4 0 m rfl (pL_cong hp.2.2.2 fun _ _ _ _ _ _ => by simp) (fz_refl _ _ _))
end ZGr
