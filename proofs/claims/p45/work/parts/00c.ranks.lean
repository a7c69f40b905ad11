/-! bit sets as numbers; counting; dense ranks; numbers out of digits -/
def bm (p : Nat → Bool) (n : Nat) : Nat := fb_sm (fun i => if p i = true then 2 ^ i else 0) n
theorem bm_succ (p : Nat → Bool) (n : Nat) : bm p (n + 1) = bm p n + if p n = true then 2 ^ n else 0 := rfl
theorem bm_lt (p : Nat → Bool) : ∀ n, bm p n < 2 ^ n := by
  intro n
  induction n with
  | zero => show (0 : Nat) < 2 ^ 0; decide
  | succ n ih =>
    rw [bm_succ, Nat.pow_succ]
    split <;> omega
theorem bits_eq {a b n : Nat} (ha : a < 2 ^ n) (hb : b < 2 ^ n) (h : ∀ i, i < n → a.testBit i = b.testBit i) : a = b := Nat.eq_of_testBit_eq fun i => by
  by_cases hi : i < n
  · exact h i hi
  · have hp : 2 ^ n ≤ 2 ^ i := Nat.pow_le_pow_right (by decide) (Nat.le_of_not_lt hi)
    rw [Nat.testBit_lt_two_pow (Nat.lt_of_lt_of_le ha hp), Nat.testBit_lt_two_pow (Nat.lt_of_lt_of_le hb hp)]
theorem bit_hi {a n i : Nat} (ha : a < 2 ^ n) (hi : n ≤ i) : a.testBit i = false := Nat.testBit_lt_two_pow (Nat.lt_of_lt_of_le ha (Nat.pow_le_pow_right (by decide) hi))
theorem bm_bit (p : Nat → Bool) : ∀ n i, (bm p n).testBit i = (decide (i < n) && p i) := by
  intro n
  induction n with
  | zero => intro i; show (0 : Nat).testBit i = _; simp
  | succ n ih =>
    intro i
    by_cases hi : i < n + 1
    · rw [bm_succ]
      by_cases hp : p n = true
      · rw [if_pos hp, Nat.add_comm]
        rcases Nat.lt_or_ge i n with h | h
        · rw [Nat.testBit_two_pow_add_gt h, ih]; simp [h, hi]
        · have e : i = n := by omega
          subst e
          rw [Nat.testBit_two_pow_add_eq, ih]; simp [hp]
      · rw [if_neg hp, Nat.add_zero, ih]
        by_cases h : i = n
        · subst h; simp [hp]
        · have h2 : i < n := by omega
          simp [h2, hi]
    · rw [bit_hi (bm_lt p (n + 1)) (by omega)]; simp [hi]
theorem bm_cong {p q : Nat → Bool} {n : Nat} (h : ∀ i, i < n → p i = q i) : bm p n = bm q n := fb_sm_cong fun i hi => by rw [h i hi]
theorem bm_tb {a n : Nat} (h : a < 2 ^ n) : bm a.testBit n = a := bits_eq (bm_lt _ n) h fun i hi => by rw [bm_bit]; simp [hi]
theorem bm_inj {p q : Nat → Bool} {n : Nat} (h : bm p n = bm q n) : ∀ i, i < n → p i = q i := fun i hi => by
  have := congrArg (fun a => Nat.testBit a i) h
  simpa [bm_bit, hi] using this
theorem bm_ne0 {p : Nat → Bool} {n v : Nat} (hv : v < n) (h : p v = true) : bm p n ≠ 0 := fun e => by
  have := bm_bit p n v
  rw [e] at this
  simp [hv, h] at this
theorem bm_0 {p : Nat → Bool} {n : Nat} (h : ∀ i, i < n → p i = false) : bm p n = 0 := bits_eq (bm_lt _ n) (Nat.two_pow_pos n) fun i hi => by rw [bm_bit, h i hi]; simp
theorem bm_or (p q : Nat → Bool) (n : Nat) : bm p n ||| bm q n = bm (fun i => p i || q i) n := bits_eq (Nat.or_lt_two_pow (bm_lt p n) (bm_lt q n)) (bm_lt _ n) fun i hi => by rw [Nat.testBit_or, bm_bit, bm_bit, bm_bit]; simp [hi]
theorem bm_and (p q : Nat → Bool) (n : Nat) : bm p n &&& bm q n = bm (fun i => p i && q i) n := bits_eq (Nat.and_lt_two_pow _ (bm_lt q n)) (bm_lt _ n) fun i hi => by rw [Nat.testBit_and, bm_bit, bm_bit, bm_bit]; simp [hi]
theorem bm_one {v n : Nat} (h : v < n) : bm (fun i => i == v) n = 2 ^ v := bits_eq (bm_lt _ n) (Nat.pow_lt_pow_right (by decide) h) fun i hi => by
  rw [bm_bit, Nat.testBit_two_pow]
  by_cases e : v = i
  · subst e; simp [hi]
  · simp [e, Ne.symm e]
theorem bm_add {p : Nat → Bool} {v n : Nat} (h : v < n) : bm p n ||| 2 ^ v = bm (fun i => p i || i == v) n := by rw [← bm_one h, bm_or]
theorem bm_put {p : Nat → Bool} {v : Nat} (h : p v = true) : bm p v ||| 2 ^ v = bm p (v + 1) := by
  refine bits_eq (n := v + 1) (Nat.or_lt_two_pow (Nat.lt_of_lt_of_le (bm_lt p v) (Nat.pow_le_pow_right (by decide) (Nat.le_succ v))) (Nat.pow_lt_pow_right (by decide) (Nat.lt_succ_self v))) (bm_lt _ _) fun i hi => ?_
  rw [Nat.testBit_or, bm_bit, bm_bit, Nat.testBit_two_pow]
  by_cases e : v = i
  · subst e; simp [h]
  · have h2 : i < v := by omega
    simp [e, h2, hi]
theorem bm_skip {p : Nat → Bool} {v : Nat} (h : p v = false) : bm p (v + 1) = bm p v := by rw [bm_succ, h]; rfl
theorem bm_7 {p : Nat → Bool} {n : Nat} (hn : n ≤ 7) : bm p n < 128 := Nat.lt_of_lt_of_le (bm_lt p n) (Nat.pow_le_pow_right (n := 2) (by decide) hn)
theorem bm_31 {p : Nat → Bool} {n : Nat} (hn : n ≤ 31) : bm p n < 2 ^ 31 := Nat.lt_of_lt_of_le (bm_lt p n) (Nat.pow_le_pow_right (n := 2) (by decide) hn)
theorem ct_trim {p : Nat → Bool} {n m : Nat} (h : n ≤ m) (hp : ∀ i, n ≤ i → i < m → p i = false) : fb_ct p m = fb_ct p n := by
  obtain ⟨k, rfl⟩ := Nat.exists_eq_add_of_le h
  rw [fb_ct_split]
  have : fb_ct (fun j => p (n + j)) k = 0 := by
    rcases Nat.eq_zero_or_pos (fb_ct (fun j => p (n + j)) k) with e | e
    · exact e
    · obtain ⟨j, hj, h2⟩ := fb_ct_pos.mp e
      rw [hp (n + j) (Nat.le_add_right _ _) (by omega)] at h2
      cases h2
  omega
theorem bm_ct {p : Nat → Bool} {n m : Nat} (h : n ≤ m) : fb_ct (bm p n).testBit m = fb_ct p n := by
  rw [ct_trim h (fun i h1 _ => by rw [bm_bit]; simp [Nat.not_lt.mpr h1])]
  exact fb_ct_cong fun i hi => by rw [bm_bit]; simp [hi]
theorem ct_lt {p q : Nat → Bool} {n k : Nat} (h : ∀ i, i < n → p i = true → q i = true) (hk : k < n) (h1 : q k = true) (h2 : p k = false) : fb_ct p n < fb_ct q n := by
  have e := fb_ct_upd p true hk
  rw [h2, if_neg (by decide), if_pos rfl] at e
  have : fb_ct (fun i => if i = k then true else p i) n ≤ fb_ct q n := fb_ct_sub fun i hi hp => by
    by_cases e2 : i = k
    · subst e2; exact h1
    · rw [if_neg e2] at hp; exact h i hi hp
  omega
theorem ct_0 {p : Nat → Bool} {n : Nat} (h : ∀ i, i < n → p i = false) : fb_ct p n = 0 := by
  rcases Nat.eq_zero_or_pos (fb_ct p n) with e | e
  · exact e
  · obtain ⟨j, hj, h2⟩ := fb_ct_pos.mp e
    rw [h j hj] at h2; cases h2
theorem ct_inj {p q : Nat → Bool} {n m : Nat} {f : Nat → Nat} (h1 : ∀ i, i < n → p i = true → f i < m ∧ q (f i) = true) (h2 : ∀ i j, i < n → j < n → p i = true → p j = true → f i = f j → i = j) : fb_ct p n ≤ fb_ct q m := by
  have key : ∀ k, ∃ i, k < fb_ct p n → (i < n ∧ p i = true ∧ fb_ct p i = k) := fun k => by
    by_cases hk : k < fb_ct p n
    · obtain ⟨i, hi⟩ := fb_ct_kth hk
      exact ⟨i, fun _ => hi⟩
    · exact ⟨0, fun h => absurd h hk⟩
  obtain ⟨idx, hidx⟩ := Classical.axiomOfChoice key
  refine fb_holes (fb_ct q m) (fb_ct p n) (fun k => fb_ct q (f (idx k))) (fun k hk => ?_) (fun k l hkl hl e => ?_)
  · obtain ⟨a1, a2, -⟩ := hidx k hk
    obtain ⟨b1, b2⟩ := h1 _ a1 a2
    have c1 := fb_ct_mono q (show f (idx k) + 1 ≤ m from b1)
    rw [fb_ct_succ, b2] at c1
    simp at c1
    omega
  · obtain ⟨a1, a2, a3⟩ := hidx k (by omega)
    obtain ⟨b1, b2, b3⟩ := hidx l hl
    have c := fb_ct_kth_one (h1 _ a1 a2).2 (h1 _ b1 b2).2 e
    have := h2 _ _ a1 b1 a2 b2 c
    rw [this] at a3
    omega
/-- a one-to-one map of the numbers below n to themselves -/
def pe (n : Nat) (f : Nat → Nat) : Prop := (∀ i, i < n → f i < n) ∧ ∀ i j, i < n → j < n → f i = f j → i = j
theorem pe_onto {n : Nat} {f : Nat → Nat} (h : pe n f) {y : Nat} (hy : y < n) : ∃ i, i < n ∧ f i = y := fb_onto h.1 (fun i j hij hj e => by have := h.2 i j (by omega) hj e; omega) hy
theorem ct_pe {n : Nat} {f : Nat → Nat} (h : pe n f) (p : Nat → Bool) : fb_ct (fun i => p (f i)) n = fb_ct p n := by
  apply Nat.le_antisymm
  · exact ct_inj (f := f) (fun i hi hp => ⟨h.1 i hi, hp⟩) (fun i j hi hj _ _ e => h.2 i j hi hj e)
  · have key : ∀ y, ∃ i, y < n → (i < n ∧ f i = y) := fun y => by
      by_cases hy : y < n
      · obtain ⟨i, hi⟩ := pe_onto h hy; exact ⟨i, fun _ => hi⟩
      · exact ⟨0, fun q => absurd q hy⟩
    obtain ⟨f', hf'⟩ := Classical.axiomOfChoice key
    refine ct_inj (f := f') (fun i hi hp => ⟨(hf' i hi).1, by show p (f (f' i)) = true; rw [(hf' i hi).2]; exact hp⟩) (fun i j hi hj _ _ e => ?_)
    rw [← (hf' i hi).2, ← (hf' j hj).2, e]
theorem pe_inv {n : Nat} {f : Nat → Nat} (h : pe n f) : ∃ g, pe n g ∧ (∀ i, i < n → g (f i) = i) ∧ ∀ i, i < n → f (g i) = i := by
  have key : ∀ y, ∃ i, y < n → (i < n ∧ f i = y) := fun y => by
    by_cases hy : y < n
    · obtain ⟨i, hi⟩ := pe_onto h hy; exact ⟨i, fun _ => hi⟩
    · exact ⟨0, fun q => absurd q hy⟩
  obtain ⟨g, hg⟩ := Classical.axiomOfChoice key
  refine ⟨g, ⟨fun i hi => (hg i hi).1, fun i j hi hj e => by rw [← (hg i hi).2, ← (hg j hj).2, e]⟩, fun i hi => ?_, fun i hi => (hg i hi).2⟩
  exact h.2 _ _ (hg (f i) (h.1 i hi)).1 hi (hg (f i) (h.1 i hi)).2
theorem pe_comp {n : Nat} {f g : Nat → Nat} (hf : pe n f) (hg : pe n g) : pe n (fun i => f (g i)) := ⟨fun i hi => hf.1 _ (hg.1 i hi), fun i j hi hj e => hg.2 i j hi hj (hf.2 _ _ (hg.1 i hi) (hg.1 j hj) e)⟩
theorem pe_id (n : Nat) : pe n (fun i => i) := ⟨fun _ h => h, fun _ _ _ _ h => h⟩
/-- r ranks the numbers below n by s: ranks 0 .. q less 1, all of them there -/
def Dn (n : Nat) (s r : Nat → Nat) (q : Nat) : Prop := (∀ u v, u < n → v < n → (r u < r v ↔ s u < s v)) ∧ (∀ v, v < n → r v < q) ∧ ∀ j, j < q → ∃ v, v < n ∧ r v = j
theorem Dn_le {n q : Nat} {s r : Nat → Nat} (h : Dn n s r q) {u v : Nat} (hu : u < n) (hv : v < n) : r u ≤ r v ↔ s u ≤ s v := by
  have := h.1 v u hv hu
  omega
theorem Dn_eq {n q : Nat} {s r : Nat → Nat} (h : Dn n s r q) {u v : Nat} (hu : u < n) (hv : v < n) : r u = r v ↔ s u = s v := by
  have := Dn_le h hu hv
  have := Dn_le h hv hu
  omega
theorem Dn_one {n q q' : Nat} {s r r' : Nat → Nat} (h1 : Dn n s r q) (h2 : Dn n s r' q') : ∀ v, v < n → r v = r' v := by
  have key : ∀ k v, v < n → r v = k → r' v = k := by
    intro k
    induction k using Nat.strongRecOn with
    | _ k ih =>
      intro v hv hk
      rcases Nat.lt_trichotomy (r' v) k with h | h | h
      · obtain ⟨u, hu, e⟩ := h1.2.2 (r' v) (by have := h1.2.1 v hv; omega)
        have := ih _ h u hu e
        have a := (h1.1 u v hu hv).mp (by omega)
        have b := (h2.1 u v hu hv).mpr a
        omega
      · exact h
      · obtain ⟨u, hu, e⟩ := h2.2.2 k (by have := h2.2.1 v hv; omega)
        have a := (h2.1 u v hu hv).mp (by omega)
        have b := (h1.1 u v hu hv).mpr a
        have := ih (r u) (by omega) u hu rfl
        omega
  exact fun v hv => (key _ v hv rfl).symm
theorem Dn_q {n q q' : Nat} {s r r' : Nat → Nat} (h1 : Dn n s r q) (h2 : Dn n s r' q') : q = q' := by
  have e := Dn_one h1 h2
  rcases Nat.lt_trichotomy q q' with h | h | h
  · obtain ⟨v, hv, e2⟩ := h2.2.2 q h
    have := h1.2.1 v hv; have := e v hv; omega
  · exact h
  · obtain ⟨v, hv, e2⟩ := h1.2.2 q' h
    have := h2.2.1 v hv; have := e v hv; omega
theorem Dn_cong {n q : Nat} {s s' r r' : Nat → Nat} (h : Dn n s r q) (hs : ∀ u v, u < n → v < n → (s u < s v ↔ s' u < s' v)) (hr : ∀ v, v < n → r v = r' v) : Dn n s' r' q :=
  ⟨fun u v hu hv => by rw [← hr u hu, ← hr v hv, h.1 u v hu hv]; exact hs u v hu hv, fun v hv => by rw [← hr v hv]; exact h.2.1 v hv, fun j hj => by obtain ⟨v, hv, e⟩ := h.2.2 j hj; exact ⟨v, hv, by rw [← hr v hv]; exact e⟩⟩
theorem Dn_le_n {n q : Nat} {s r : Nat → Nat} (h : Dn n s r q) : q ≤ n := by
  have key : ∀ y, ∃ i, y < q → (i < n ∧ r i = y) := fun y => by
    by_cases hy : y < q
    · obtain ⟨i, hi⟩ := h.2.2 y hy; exact ⟨i, fun _ => hi⟩
    · exact ⟨0, fun z => absurd z hy⟩
  obtain ⟨g, hg⟩ := Classical.axiomOfChoice key
  refine fb_holes n q g (fun i hi => (hg i hi).1) (fun i j hij hj e => ?_)
  have a := (hg i (by omega)).2
  have b := (hg j hj).2
  rw [e, b] at a
  omega
def fs (s : Nat → Nat) (o : Nat) : Bool := fb_ct (fun p => s p == s o) o == 0
theorem fs_iff {s : Nat → Nat} {o : Nat} : fs s o = true ↔ ∀ p, p < o → s p ≠ s o := by
  unfold fs
  rw [beq_iff_eq]
  constructor
  · intro h p hp e
    have : 0 < fb_ct (fun p => s p == s o) o := fb_ct_pos.mpr ⟨p, hp, by simp [e]⟩
    omega
  · intro h
    exact ct_0 fun i hi => by simp [h i hi]
def rk (n : Nat) (s : Nat → Nat) (v : Nat) : Nat := fb_ct (fun o => fs s o && decide (s o < s v)) n
def nr (n : Nat) (s : Nat → Nat) : Nat := fb_ct (fs s) n
theorem fs_ex {n : Nat} (s : Nat → Nat) {u : Nat} (hu : u < n) : ∃ o, o < n ∧ s o = s u ∧ fs s o = true := by
  obtain ⟨i, h1, h2, h3⟩ := fb_first (p := fun o => s o = s u) ⟨u, hu, rfl⟩
  exact ⟨i, h1, h2, fs_iff.mpr fun p hp e => h3 p hp (by rw [e]; exact h2)⟩
theorem rk_lt {n : Nat} {s : Nat → Nat} {u v : Nat} (hu : u < n) (h : s u < s v) : rk n s u < rk n s v := by
  obtain ⟨o, h1, h2, h3⟩ := fs_ex s hu
  refine ct_lt (k := o) (fun i hi hp => ?_) h1 (by simp [h3, h2, h]) (by simp [h2])
  simp at hp ⊢
  exact ⟨hp.1, by omega⟩
theorem rk_eq {n : Nat} {s : Nat → Nat} {u v : Nat} (h : s u = s v) : rk n s u = rk n s v := by unfold rk; rw [h]
theorem rk_Dn (n : Nat) (s : Nat → Nat) : Dn n s (rk n s) (nr n s) := by
  have e1 : ∀ u v, u < n → v < n → (rk n s u < rk n s v ↔ s u < s v) := fun u v hu hv => by
    constructor
    · intro h
      rcases Nat.lt_trichotomy (s u) (s v) with g | g | g
      · exact g
      · have := rk_eq (n := n) g; omega
      · have := rk_lt (n := n) hv g; omega
    · exact rk_lt hu
  have e2 : ∀ v, v < n → rk n s v < nr n s := fun v hv => by
    obtain ⟨o, h1, h2, h3⟩ := fs_ex s hv
    refine ct_lt (k := o) (fun i hi hp => ?_) h1 h3 (by simp [h2])
    simp at hp; exact hp.1
  refine ⟨e1, e2, fun j hj => ?_⟩
  have key : ∀ k, ∃ i, k < nr n s → (i < n ∧ fs s i = true ∧ fb_ct (fs s) i = k) := fun k => by
    by_cases hk : k < nr n s
    · obtain ⟨i, hi⟩ := fb_ct_kth (show k < fb_ct (fs s) n from hk); exact ⟨i, fun _ => hi⟩
    · exact ⟨0, fun h => absurd h hk⟩
  obtain ⟨idx, hidx⟩ := Classical.axiomOfChoice key
  obtain ⟨i, hi, e⟩ := fb_onto (n := nr n s) (f := fun k => rk n s (idx k)) (fun k hk => e2 _ (hidx k hk).1) (fun k l hkl hl e => by
    obtain ⟨a1, a2, a3⟩ := hidx k (by omega)
    obtain ⟨b1, b2, b3⟩ := hidx l hl
    have c1 := (e1 (idx k) (idx l) a1 b1)
    have c2 := (e1 (idx l) (idx k) b1 a1)
    have c3 : s (idx k) = s (idx l) := by
      have e' : rk n s (idx k) = rk n s (idx l) := e
      omega
    rcases Nat.lt_trichotomy (idx k) (idx l) with g | g | g
    · exact fs_iff.mp b2 _ g c3
    · rw [g] at a3; omega
    · exact fs_iff.mp a2 _ g c3.symm) hj
  exact ⟨idx i, (hidx i hi).1, e⟩
theorem rk_pe {n : Nat} {f s s' : Nat → Nat} (h : pe n f) (hs : ∀ v, v < n → s' v = s (f v)) : nr n s' = nr n s ∧ ∀ v, v < n → rk n s' v = rk n s (f v) := by
  have d := rk_Dn n s
  have d2 : Dn n s' (fun v => rk n s (f v)) (nr n s) := by
    refine ⟨fun u v hu hv => ?_, fun v hv => d.2.1 _ (h.1 v hv), fun j hj => ?_⟩
    · rw [hs u hu, hs v hv]; exact d.1 _ _ (h.1 u hu) (h.1 v hv)
    · obtain ⟨v, hv, e⟩ := d.2.2 j hj
      obtain ⟨i, hi, e2⟩ := pe_onto h hv
      exact ⟨i, hi, by show rk n s (f i) = j; rw [e2]; exact e⟩
  exact ⟨Dn_q (rk_Dn n s') d2, Dn_one (rk_Dn n s') d2⟩
/-- a number by its digits, the highest first -/
def nm (B : Nat) (f : Nat → Nat) : Nat → Nat
  | 0 => 0
  | k + 1 => B * nm B f k + f k
theorem nm_lt {B : Nat} {f : Nat → Nat} : ∀ {k : Nat}, (∀ i, i < k → f i < B) → nm B f k < B ^ k := by
  intro k
  induction k with
  | zero => intro _; exact Nat.one_pos
  | succ k ih =>
    intro h
    have a := ih (fun i hi => h i (by omega))
    have b := h k (by omega)
    show B * nm B f k + f k < B ^ (k + 1)
    have c : B * (nm B f k + 1) ≤ B * B ^ k := Nat.mul_le_mul_left B a
    rw [Nat.pow_succ, Nat.mul_comm (B ^ k) B]
    rw [Nat.mul_add] at c
    omega
theorem nm_cong {B : Nat} {f g : Nat → Nat} : ∀ {k : Nat}, (∀ i, i < k → f i = g i) → nm B f k = nm B g k := by
  intro k
  induction k with
  | zero => intro _; rfl
  | succ k ih =>
    intro h
    show B * nm B f k + f k = B * nm B g k + g k
    rw [ih (fun i hi => h i (by omega)), h k (by omega)]
theorem nm_lx {B : Nat} {f g : Nat → Nat} : ∀ {k i : Nat}, (∀ i, i < k → f i < B) → i < k → (∀ j, j < i → f j = g j) → f i < g i → nm B f k < nm B g k := by
  intro k
  induction k with
  | zero => intro i _ h; omega
  | succ k ih =>
    intro i hf hi he hl
    show B * nm B f k + f k < B * nm B g k + g k
    by_cases e : i = k
    · subst e
      rw [nm_cong he]; omega
    · have a := ih (fun i hi => hf i (by omega)) (show i < k by omega) he hl
      have b := hf k (by omega)
      have c : B * (nm B f k + 1) ≤ B * nm B g k := Nat.mul_le_mul_left B a
      rw [Nat.mul_add] at c
      omega
theorem nm_inj {B : Nat} {f g : Nat → Nat} {k : Nat} (hf : ∀ i, i < k → f i < B) (hg : ∀ i, i < k → g i < B) (h : nm B f k = nm B g k) : ∀ i, i < k → f i = g i := by
  by_cases hd : ∃ i, i < k ∧ f i ≠ g i
  · obtain ⟨i, h1, h2, h3⟩ := fb_first hd
    have he : ∀ j, j < i → f j = g j := fun j hj => Classical.byContradiction (h3 j hj)
    rcases Nat.lt_or_ge (f i) (g i) with l | l
    · have := nm_lx hf h1 he l; omega
    · have := nm_lx hg h1 (fun j hj => (he j hj).symm) (show g i < f i by omega); omega
  · intro i hi
    exact Classical.byContradiction fun e => hd ⟨i, hi, e⟩
theorem nm_low {B : Nat} {f : Nat → Nat} {k l : Nat} (hkl : k ≤ l) (h : ∀ i, k ≤ i → i < l → f i = 0) : nm B f l = nm B f k * B ^ (l - k) := by
  obtain ⟨d, rfl⟩ := Nat.exists_eq_add_of_le hkl
  rw [Nat.add_sub_cancel_left]
  induction d with
  | zero => simp
  | succ d ih =>
    show B * nm B f (k + d) + f (k + d) = _
    rw [ih (by omega) (fun i a b => h i a (by omega)), h (k + d) (by omega) (by omega), Nat.pow_succ, Nat.add_zero, Nat.mul_comm B, Nat.mul_assoc]
