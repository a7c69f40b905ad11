/-! the tree and THE SEARCH: the mathematics -/
/-- f for 0, 1, .. -/
def it {σ : Type} (f : Nat → σ → σ) : Nat → σ → σ
  | 0, s => s
  | v + 1, s => f v (it f v s)
/-- depth, marks, code, which vertex is in which cell -/
abbrev Lf : Type := Nat × (Nat → Nat) × (Nat → Nat) × (Nat → Nat)
abbrev l_d (l : Lf) : Nat := l.1
abbrev l_m (l : Lf) : Nat → Nat := l.2.1
abbrev l_c (l : Lf) : Nat → Nat := l.2.2.1
abbrev l_a (l : Lf) : Nat → Nat := l.2.2.2
def cdA (G : Gr) (a : Nat → Nat) : Nat → List Nat
  | 0 => []
  | i + 1 => cdA G a i ++ [gc G (a i)]
def cdR (G : Gr) (a : Nat → Nat) (i : Nat) : Nat → List Nat
  | 0 => []
  | d + 1 => cdR G a i d ++ [gk G (a i) (a (i + 1 + d))]
def cdB (G : Gr) (a : Nat → Nat) : Nat → List Nat
  | 0 => []
  | i + 1 => cdB G a i ++ cdR G a i (gn G - 1 - i)
def cdl (G : Gr) (a : Nat → Nat) : List Nat := cdA G a (gn G) ++ cdB G a (gn G)
def cd (G : Gr) (a : Nat → Nat) (i : Nat) : Nat := (cdl G a).getD i 0
def vi (c : Nat → Nat) (n j : Nat) : Nat := fa_first (fun v => c v == j) n
theorem cdA_len (G : Gr) (a : Nat → Nat) : ∀ k, (cdA G a k).length = k := by
  intro k
  induction k with
  | zero => rfl
  | succ k ih => show (cdA G a k ++ [_]).length = _; rw [List.length_append, ih]; rfl
theorem cdR_len (G : Gr) (a : Nat → Nat) (i : Nat) : ∀ k, (cdR G a i k).length = k := by
  intro k
  induction k with
  | zero => rfl
  | succ k ih => show (cdR G a i k ++ [_]).length = _; rw [List.length_append, ih]; rfl
theorem cdB_len (G : Gr) (a : Nat → Nat) : ∀ k, (cdB G a k).length = fb_sm (fun i => gn G - 1 - i) k := by
  intro k
  induction k with
  | zero => rfl
  | succ k ih => show (cdB G a k ++ cdR G a k _).length = _; rw [List.length_append, ih, cdR_len, fb_sm_succ]
def cln (n : Nat) : Nat := n + fb_sm (fun i => n - 1 - i) n
theorem cdl_len (G : Gr) (a : Nat → Nat) : (cdl G a).length = cln (gn G) := by
  unfold cdl cln
  rw [List.length_append, cdA_len, cdB_len]
theorem cln_tab : ∀ n, n ≤ 7 → cln n = n + n * (n - 1) / 2 ∧ cln n ≤ 28 := by decide +kernel
theorem cdA_eq {G : Gr} {a b : Nat → Nat} : ∀ {k : Nat}, cdA G a k = cdA G b k → ∀ i, i < k → gc G (a i) = gc G (b i) := by
  intro k
  induction k with
  | zero => intro _ i hi; omega
  | succ k ih =>
    intro h i hi
    have h' : cdA G a k ++ [gc G (a k)] = cdA G b k ++ [gc G (b k)] := h
    obtain ⟨h1, h2⟩ := List.append_inj h' (by rw [cdA_len, cdA_len])
    by_cases e : i = k
    · subst e; exact (List.cons.inj h2).1
    · exact ih h1 i (by omega)
theorem cdR_eq {G : Gr} {a b : Nat → Nat} {i : Nat} : ∀ {k : Nat}, cdR G a i k = cdR G b i k → ∀ d, d < k → gk G (a i) (a (i + 1 + d)) = gk G (b i) (b (i + 1 + d)) := by
  intro k
  induction k with
  | zero => intro _ i hi; omega
  | succ k ih =>
    intro h d hd
    have h' : cdR G a i k ++ [gk G (a i) (a (i + 1 + k))] = cdR G b i k ++ [gk G (b i) (b (i + 1 + k))] := h
    obtain ⟨h1, h2⟩ := List.append_inj h' (by rw [cdR_len, cdR_len])
    by_cases e : d = k
    · subst e; exact (List.cons.inj h2).1
    · exact ih h1 d (by omega)
theorem cdB_eq {G : Gr} {a b : Nat → Nat} : ∀ {k : Nat}, cdB G a k = cdB G b k → ∀ i, i < k → cdR G a i (gn G - 1 - i) = cdR G b i (gn G - 1 - i) := by
  intro k
  induction k with
  | zero => intro _ i hi; omega
  | succ k ih =>
    intro h i hi
    have h' : cdB G a k ++ cdR G a k (gn G - 1 - k) = cdB G b k ++ cdR G b k (gn G - 1 - k) := h
    obtain ⟨h1, h2⟩ := List.append_inj h' (by rw [cdB_len, cdB_len])
    by_cases e : i = k
    · subst e; exact h2
    · exact ih h1 i (by omega)
theorem cdA_cong {G : Gr} {a b : Nat → Nat} : ∀ {k : Nat}, (∀ i, i < k → gc G (a i) = gc G (b i)) → cdA G a k = cdA G b k := by
  intro k
  induction k with
  | zero => intro _; rfl
  | succ k ih => intro h; show cdA G a k ++ [_] = cdA G b k ++ [_]; rw [ih (fun i hi => h i (by omega)), h k (by omega)]
theorem cdR_cong {G : Gr} {a b : Nat → Nat} {i : Nat} : ∀ {k : Nat}, (∀ d, d < k → gk G (a i) (a (i + 1 + d)) = gk G (b i) (b (i + 1 + d))) → cdR G a i k = cdR G b i k := by
  intro k
  induction k with
  | zero => intro _; rfl
  | succ k ih => intro h; show cdR G a i k ++ [_] = cdR G b i k ++ [_]; rw [ih (fun i hi => h i (by omega)), h k (by omega)]
theorem cdB_cong {G : Gr} {a b : Nat → Nat} : ∀ {k : Nat}, (∀ i, i < k → cdR G a i (gn G - 1 - i) = cdR G b i (gn G - 1 - i)) → cdB G a k = cdB G b k := by
  intro k
  induction k with
  | zero => intro _; rfl
  | succ k ih => intro h; show cdB G a k ++ cdR G a k _ = cdB G b k ++ cdR G b k _; rw [ih (fun i hi => h i (by omega)), h k (by omega)]
theorem cdl_cong {G : Gr} {a b : Nat → Nat} (h1 : ∀ i, i < gn G → gc G (a i) = gc G (b i)) (h2 : ∀ i j, i < gn G → j < gn G → gk G (a i) (a j) = gk G (b i) (b j)) : cdl G a = cdl G b := by
  unfold cdl
  rw [cdA_cong h1, cdB_cong (fun i hi => cdR_cong (fun d hd => h2 i (i + 1 + d) hi (by omega)))]
theorem cdl_eq {G : Gr} (hG : gOK G) {a b : Nat → Nat} (h : cdl G a = cdl G b) : (∀ i, i < gn G → gc G (a i) = gc G (b i)) ∧ ∀ i j, i < gn G → j < gn G → gk G (a i) (a j) = gk G (b i) (b j) := by
  unfold cdl at h
  obtain ⟨h1, h2⟩ := List.append_inj h (by rw [cdA_len, cdA_len])
  have lo : ∀ i j, i < j → j < gn G → gk G (a i) (a j) = gk G (b i) (b j) := fun i j hij hj => by
    have := cdR_eq (cdB_eq h2 i (by omega)) (j - i - 1) (by omega)
    rw [show i + 1 + (j - i - 1) = j by omega] at this
    exact this
  refine ⟨cdA_eq h1, fun i j hi hj => ?_⟩
  rcases Nat.lt_trichotomy i j with g | g | g
  · exact lo i j g hj
  · subst g; rw [hG.2.2.2, hG.2.2.2]
  · rw [hG.2.2.1 (a i), hG.2.2.1 (b i)]; exact lo j i g hi
theorem cd_lt {G : Gr} (hG : gOK G) (a : Nat → Nat) (i : Nat) : cd G a i < 10 := by
  have A : ∀ k, ∀ x ∈ cdA G a k, x < 10 := fun k => by
    induction k with
    | zero => intro x hx; cases hx
    | succ k ih => intro x hx; rcases List.mem_append.mp hx with h | h
                   · exact ih x h
                   · rw [List.mem_singleton.mp h]; exact hG.1 _
  have R : ∀ i k, ∀ x ∈ cdR G a i k, x < 10 := fun i k => by
    induction k with
    | zero => intro x hx; cases hx
    | succ k ih => intro x hx; rcases List.mem_append.mp hx with h | h
                   · exact ih x h
                   · rw [List.mem_singleton.mp h]; have := hG.2.1 (a i) (a (i + 1 + k)); omega
  have B : ∀ k, ∀ x ∈ cdB G a k, x < 10 := fun k => by
    induction k with
    | zero => intro x hx; cases hx
    | succ k ih => intro x hx; rcases List.mem_append.mp hx with h | h
                   · exact ih x h
                   · exact R _ _ x h
  unfold cd
  rw [List.getD_eq_getElem?_getD]
  cases e : (cdl G a)[i]? with
  | none => simp
  | some x =>
    have : x ∈ cdl G a := List.mem_of_getElem? e
    rcases List.mem_append.mp this with h | h
    · simpa using A _ x h
    · simpa using B _ x h
theorem cd_inj {G : Gr} (hn : gn G ≤ 7) {a b : Nat → Nat} (h : ∀ i, i < 28 → cd G a i = cd G b i) : cdl G a = cdl G b := by
  have l1 := cdl_len G a
  have l2 := cdl_len G b
  have l3 := (cln_tab (gn G) hn).2
  refine List.ext_getElem (by rw [l1, l2]) fun i h1 h2 => ?_
  have := h i (by omega)
  unfold cd at this
  rw [List.getD_eq_getElem?_getD, List.getD_eq_getElem?_getD, List.getElem?_eq_getElem h1, List.getElem?_eq_getElem h2] at this
  exact this
/-- which vertex is in a cell, where each cell has one -/
theorem vi_spec {c : Nat → Nat} {n j : Nat} (h : ∃ v, v < n ∧ c v = j) : vi c n j < n ∧ c (vi c n j) = j := by
  obtain ⟨v, h1, h2⟩ := h
  have hlt : vi c n j < n := by
    apply Classical.byContradiction
    intro hno
    have := fa_first_no (fun v => c v == j) n v (by unfold vi at hno; omega)
    simp [h2] at this
  have := fa_first_yes (fun v => c v == j) n hlt
  exact ⟨hlt, by simpa [vi] using this⟩
theorem vi_pe {c : Nat → Nat} {n q : Nat} (h : cwf n c q) (h0 : tg c n q = 0) : pe n (vi c n) ∧ ∀ v, v < n → vi c n (c v) = v := by
  have e := disc_q h h0
  have sp : ∀ j, j < n → vi c n j < n ∧ c (vi c n j) = j := fun j hj => vi_spec (h.2 j (by omega))
  exact ⟨⟨fun j hj => (sp j hj).1, fun i j hi hj z => by rw [← (sp i hi).2, ← (sp j hj).2, z]⟩, fun v hv => disc_inj h h0 (vi_spec ⟨v, hv, rfl⟩).1 hv (vi_spec ⟨v, hv, rfl⟩).2⟩
/-- the key by which leafs are compared -/
def ky (l : Lf) : Nat := nm 100000000 (l_m l) 7 * 10 ^ 28 + nm 10 (l_c l) 28
/-- generators -/
def gnum (a b : Nat → Nat) : Nat → Nat
  | 0 => 0
  | c + 1 => gnum a b c ||| a c * 2 ^ (3 * b c)
def sent (g v : Nat) : Nat := g / 2 ^ (3 * v) % 8
def lvs (g ap n : Nat) : Bool := fb_ct (fun v => ap.testBit v && !(sent g v == v)) n == 0
def im (g s : Nat) : Nat → Nat
  | 0 => 0
  | v + 1 => if s.testBit v = true then im g s v ||| 2 ^ sent g v else im g s v
def ps (n ap : Nat) : List Nat → Nat → Nat
  | [], all => all
  | g :: gs, all => ps n ap gs (if lvs g ap n = true then all ||| im g all n else all)
def cl (n ap : Nat) (gs : List Nat) : Nat → Nat → Nat
  | 0, all => all
  | k + 1, all => cl n ap gs k (ps n ap gs all)
/-- THE SEARCH: nodes, leafs, cut, skipped, how many became best, generators, first, best -/
abbrev SS : Type := Nat × Nat × Nat × Nat × Nat × List Nat × Lf × Lf
abbrev S_n (s : SS) : Nat := s.1
abbrev S_l (s : SS) : Nat := s.2.1
abbrev S_c (s : SS) : Nat := s.2.2.1
abbrev S_k (s : SS) : Nat := s.2.2.2.1
abbrev S_b (s : SS) : Nat := s.2.2.2.2.1
abbrev S_g (s : SS) : List Nat := s.2.2.2.2.2.1
abbrev S_f (s : SS) : Lf := s.2.2.2.2.2.2.1
abbrev S_t (s : SS) : Lf := s.2.2.2.2.2.2.2
/-- the leaf l is come to -/
def sl (n : Nat) (l : Lf) (s : SS) : SS :=
  if S_l s = 0 then (S_n s, 1, S_c s, S_k s, S_b s + 1, S_g s, l, l)
  else if ky l = ky (S_f s) then (S_n s, S_l s + 1, S_c s, S_k s, S_b s, S_g s ++ [gnum (l_a l) (l_a (S_f s)) n], S_f s, S_t s)
  else if ky l < ky (S_t s) then (S_n s, S_l s + 1, S_c s, S_k s, S_b s + 1, S_g s, S_f s, l)
  else if ky l = ky (S_t s) then (S_n s, S_l s + 1, S_c s, S_k s, S_b s, S_g s ++ [gnum (l_a l) (l_a (S_t s)) n], S_f s, S_t s)
  else (S_n s, S_l s + 1, S_c s, S_k s, S_b s, S_g s, S_f s, S_t s)
def cutc (s : SS) (ms : Nat → Nat) (d : Nat) : Bool := !(S_l s == 0) && (decide (d ≤ l_d (S_t s)) && ((fb_ct (fun i => !(ms i == l_m (S_t s) i)) d == 0) && decide (l_m (S_t s) d < ms d)))
def nx (G : Gr) (c : Nat → Nat) (q v : Nat) : (Nat → Nat) × Nat × Nat := rfn G (ap c v) (q + 1)
def msn (G : Gr) (c : Nat → Nat) (q v d : Nat) (ms : Nat → Nat) (i : Nat) : Nat := if i = d + 1 then mrk (nx G c q v).1 (gn G) (nx G c q v).2.1 (nx G c q v).2.2 else ms i
def mkl (G : Gr) (c : Nat → Nat) (d : Nat) (ms : Nat → Nat) : Lf := (d, ms, cd G (vi c (gn G)), vi c (gn G))
def ss_n (s : SS) : SS := (S_n s + 1, s.2)
def ss_k (s : SS) : SS := (S_n s, S_l s, S_c s, S_k s + 1, s.2.2.2.2)
def ss_c (s : SS) : SS := (S_n s, S_l s, S_c s + 1, s.2.2.2)
def sw (G : Gr) : Nat → (Nat → Nat) → Nat → Nat → (Nat → Nat) → Nat → SS → SS
  | 0, _, _, _, _, _, s => s
  | k + 1, c, q, d, ms, apb, s =>
    if tg c (gn G) q = 0 then sl (gn G) (mkl G c d ms) (ss_n s)
    else (it (fun v (x : Nat × SS) => if c v + 1 = tg c (gn G) q then (if (cl (gn G) apb (S_g x.2) 7 x.1).testBit v = true then (x.1, ss_k x.2) else (x.1 ||| 2 ^ v, if cutc x.2 (msn G c q v d ms) (d + 1) = true then ss_c x.2 else sw G k (nx G c q v).1 (nx G c q v).2.1 (d + 1) (msn G c q v d ms) (apb ||| 2 ^ v) x.2)) else x) (gn G) (0, ss_n s)).2
def lf0 : Lf := (0, fun _ => 0, fun _ => 0, fun _ => 0)
def ss0 : SS := (0, 0, 0, 0, 0, [], lf0, lf0)
def ms0 (G : Gr) (i : Nat) : Nat := if i = 0 then mrk (st G).1 (gn G) (st G).2.1 (st G).2.2 else 0
def srch (G : Gr) : SS := sw G 7 (st G).1 (st G).2.1 0 (ms0 G) 0 ss0
/-- the tree: nodes, leafs, deepest, like, best -/
abbrev TS : Type := Nat × Nat × Nat × Nat × Lf
abbrev t_n (s : TS) : Nat := s.1
abbrev t_l (s : TS) : Nat := s.2.1
abbrev t_d (s : TS) : Nat := s.2.2.1
abbrev t_k (s : TS) : Nat := s.2.2.2.1
abbrev t_t (s : TS) : Lf := s.2.2.2.2
def tl (l : Lf) (s : TS) : TS :=
  if t_l s = 0 ∨ ky l < ky (t_t s) then (t_n s, t_l s + 1, (if t_d s < l_d l then l_d l else t_d s), 1, l)
  else if ky l = ky (t_t s) then (t_n s, t_l s + 1, (if t_d s < l_d l then l_d l else t_d s), t_k s + 1, t_t s)
  else (t_n s, t_l s + 1, (if t_d s < l_d l then l_d l else t_d s), t_k s, t_t s)
def ts_n (s : TS) : TS := (t_n s + 1, s.2)
def tw (G : Gr) : Nat → (Nat → Nat) → Nat → Nat → (Nat → Nat) → TS → TS
  | 0, _, _, _, _, s => s
  | k + 1, c, q, d, ms, s =>
    if tg c (gn G) q = 0 then tl (mkl G c d ms) (ts_n s)
    else it (fun v (x : TS) => if c v + 1 = tg c (gn G) q then tw G k (nx G c q v).1 (nx G c q v).2.1 (d + 1) (msn G c q v d ms) x else x) (gn G) (ts_n s)
def ts0 : TS := (0, 0, 0, 0, lf0)
def tree (G : Gr) : TS := tw G 7 (st G).1 (st G).2.1 0 (ms0 G) ts0
/-- all leafs below a node, in their order -/
def lv (G : Gr) : Nat → (Nat → Nat) → Nat → Nat → (Nat → Nat) → List Lf
  | 0, _, _, _, _ => []
  | k + 1, c, q, d, ms =>
    if tg c (gn G) q = 0 then [mkl G c d ms]
    else it (fun v (x : List Lf) => if c v + 1 = tg c (gn G) q then x ++ lv G k (nx G c q v).1 (nx G c q v).2.1 (d + 1) (msn G c q v d ms) else x) (gn G) []
theorem it_inv {σ : Type} {f : Nat → σ → σ} (P : Nat → σ → Prop) {n : Nat} {s : σ} (h0 : P 0 s) (hs : ∀ v x, v < n → P v x → P (v + 1) (f v x)) : P n (it f n s) := by
  have key : ∀ k, k ≤ n → P k (it f k s) := by
    intro k
    induction k with
    | zero => intro _; exact h0
    | succ k ih => intro hk; exact hs k _ (by omega) (ih (by omega))
  exact key n (Nat.le_refl n)
theorem it_succ {σ : Type} (f : Nat → σ → σ) (v : Nat) (s : σ) : it f (v + 1) s = f v (it f v s) := rfl
/-- the first of the least -/
def fL1 (o : Option Lf) (l : Lf) : Option Lf :=
  match o with
  | none => some l
  | some b => if ky l < ky b then some l else some b
def fLm (o : Option Lf) (L : List Lf) : Option Lf := L.foldl fL1 o
theorem fLm_app (o : Option Lf) (A B : List Lf) : fLm o (A ++ B) = fLm (fLm o A) B := List.foldl_append
def sob (s : SS) : Option Lf := if S_l s = 0 then none else some (S_t s)
def tob (s : TS) : Option Lf := if t_l s = 0 then none else some (t_t s)
theorem tob_tl (l : Lf) (s : TS) : tob (tl l s) = fL1 (tob s) l := by
  unfold tob tl
  by_cases h0 : t_l s = 0
  · rw [if_pos (Or.inl h0), if_pos h0]
    show (if t_l s + 1 = 0 then _ else _) = _
    rw [if_neg (by omega)]; rfl
  · rw [if_neg h0]
    by_cases h1 : ky l < ky (t_t s)
    · rw [if_pos (Or.inr h1)]
      show (if t_l s + 1 = 0 then _ else _) = (if _ then _ else _)
      rw [if_neg (by omega), if_pos h1]
    · rw [if_neg (show ¬ (t_l s = 0 ∨ ky l < ky (t_t s)) from fun z => z.elim h0 h1)]
      have e : fL1 (some (t_t s)) l = some (t_t s) := by show (if _ then _ else _) = _; rw [if_neg h1]
      rw [e]
      split
      · show (if t_l s + 1 = 0 then _ else _) = _
        rw [if_neg (by omega)]
      · show (if t_l s + 1 = 0 then _ else _) = _
        rw [if_neg (by omega)]
theorem tob_tw (G : Gr) : ∀ (k : Nat) (c : Nat → Nat) (q d : Nat) (ms : Nat → Nat) (s : TS), tob (tw G k c q d ms s) = fLm (tob s) (lv G k c q d ms) := by
  intro k
  induction k with
  | zero => intro c q d ms s; rfl
  | succ k ih =>
    intro c q d ms s
    show tob (if _ then _ else _) = fLm (tob s) (if _ then _ else _)
    by_cases h : tg c (gn G) q = 0
    · rw [if_pos h, if_pos h, tob_tl]; rfl
    · rw [if_neg h, if_neg h]
      have key : ∀ v, tob (it (fun v (x : TS) => if c v + 1 = tg c (gn G) q then tw G k (nx G c q v).1 (nx G c q v).2.1 (d + 1) (msn G c q v d ms) x else x) v (ts_n s)) = fLm (tob s) (it (fun v (x : List Lf) => if c v + 1 = tg c (gn G) q then x ++ lv G k (nx G c q v).1 (nx G c q v).2.1 (d + 1) (msn G c q v d ms) else x) v []) := by
        intro v
        induction v with
        | zero => rfl
        | succ v ih2 =>
          rw [it_succ, it_succ]
          by_cases hv : c v + 1 = tg c (gn G) q
          · rw [if_pos hv, if_pos hv, ih, ih2, fLm_app]
          · rw [if_neg hv, if_neg hv, ih2]
      exact key (gn G)
